/-! PURE: lean and core -/
section LNC
variable {G : Nat} {h : pH} {B : Nat → Nat} {gs : Nat → List Nat} {cc : Int32} {cl bst : Nat → Int32}
/-- giveRow(newTerms) -/
theorem se_giveRow {f g0 : Nat → Int32} (hG : 100 ≤ G) (hr : RC h B gs cc cl bst) (hf : h.2 (B 37) = .inl (0, 6, .inl f)) (hg : h.2 (B 24) = .inl (0, 6, .inl g0)) :
    ∃ g : Nat → Int32, f_Se_giveRow G (B 25) (B 24) h = some (none, hU h (B 24) (.inl (0, 6, .inl g))) ∧ ∀ i, i < 6 → g i = f i := by
  obtain ⟨ka, lc, lk, C, rw1, s⟩ := hr.se
  have n1 : B 37 ≠ B 24 := hr.1.ne (by omega) (by omega) (by omega)
  have n2 : B 25 ≠ B 24 := hr.1.ne (by omega) (by omega) (by omega)
  have lp : ∀ (d F i : Nat) (g1 : Nat → Int32), d < F → i + d = 6 → (∀ j, j < i → g1 j = f j) → ∃ g : Nat → Int32, f_Se_giveRow_b2 G F (B 25) (B 24) (nI i) (hU h (B 24) (.inl (0, 6, .inl g1))) = some (none, hU h (B 24) (.inl (0, 6, .inl g))) ∧ ∀ i, i < 6 → g i = f i := by
    intro d
    induction d with
    | zero =>
      intro F i g1 hF hi he
      obtain ⟨F, rfl⟩ : ∃ F', F = F' + 1 := ⟨F - 1, by omega⟩
      have : i = 6 := by omega
      subst this
      exact ⟨g1, by rw [f_Se_giveRow_b2_eq, if_pos (by decide), f_Se_giveRow_b29_eq], he⟩
    | succ d ih =>
      intro F i g1 hF hi he
      obtain ⟨F, rfl⟩ : ∃ F', F = F' + 1 := ⟨F - 1, by omega⟩
      have e37 : (hU h (B 24) (.inl (0, 6, .inl g1))).2 (B 37) = .inl (0, 6, .inl f) := (hU_n h _ n1).trans hf
      have e24 : (hU h (B 24) (.inl (0, 6, .inl g1))).2 (B 24) = .inl (0, 6, .inl g1) := hU_s _ _ _
      have e25 := (hU_n h (.inl (0, 6, .inl g1)) n2).trans s.2.1
      obtain ⟨g, a1, a2⟩ := ih F (i + 1) (upd g1 i (f i)) (by omega) (by omega) (fun j hj => by
        simp only [upd]
        by_cases q : j = i
        · rw [if_pos q, q]
        · rw [if_neg q]; exact he j (by omega))
      refine ⟨g, ?_, a2⟩
      rw [f_Se_giveRow_b2_eq, if_neg (show ¬ (6 : Int32) ≤ nI i from nI_ge (b := 6) (by omega) (by omega)), aL_of e24 (s.1.1 24 (by omega)), Option.bind_some, if_neg (show ¬ nI 6 ≤ nI i from nI_ge (by omega) (by omega)), gR_of (v := B 37) e25 (s.1.1 25 (by omega)) rfl, Option.bind_some, aI_of e37 (s.1.1 37 (by omega)) (by omega) (by omega), Option.bind_some, sI_of e24 (s.1.1 24 (by omega)) (by omega) (by omega), Option.bind_some, hU_u, nI_1, a1]
  obtain ⟨g, a1, a2⟩ := lp 6 G 0 g0 (by omega) (by omega) (fun j hj => absurd hj (by omega))
  rw [hU_id hg] at a1
  exact ⟨g, by rw [f_Se_giveRow_eq]; exact a1, a2⟩
/-- what findShrinkingRow has found among the nodes before t -/
def ShI (P : List Nat) (t : Nat) (g : Nat → Int32) (fnd : Bool) : Prop := (fnd = false → ∀ x, x < t → x ∈ ndL P → ∀ σ, ¬ FSg P P P (opX P x) false σ) ∧ (fnd = true → ∃ ρ, (∃ x, x ∈ ndL P ∧ FSg P P P (opX P x) false ρ) ∧ (∀ x, x < t → x ∈ ndL P → ∀ σ, FSg P P P (opX P x) false σ → lexLE P ρ σ) ∧ rowX g ρ P)
theorem fsx_lt {P : List Nat} {x : Nat} {ρ : Nat → Nat} (hP : okL P) (hx : x < 46) (h : FSg P P P (opX P x) false ρ) : ∀ i, i < 6 → stb 2 P (40 + i) = true → ρ i < 46 := fun i hi hs => stb_lt hP ((tb_opX hP hx).mp (h.1 i hi hs)).1
theorem mg_shrink {p : Nat} {any : Bool} (hG : 1000 ≤ G) (hp : p < 6) (hP : okL (gs p)) :
    ∀ (d F t : Nat) (h : pH) (g : Nat → Int32) (fnd : Bool) (X : List Nat), d < F → t + d = 46 → 40 ≤ t → RC h B (upG gs 9 X) cc cl bst → h.2 (B 24) = .inl (0, 6, .inl g) → ShI (gs p) t g fnd →
      ∃ (h2 : pH) (g2 : Nat → Int32) (b : Bool) (X2 : List Nat), f_Mg_findShrinkingRow_b6 G F (B 43) (B p) (bI any) (bI fnd) (nI t) h = some (some (.int (bI b)), h2) ∧ Ch h h2 (inB B) ∧ RC h2 B (upG gs 9 X2) cc cl bst ∧ h2.2 (B 24) = .inl (0, 6, .inl g2) ∧ (b = false → ShI (gs p) 46 g2 false) ∧ (b = true → (∃ ρ x, x ∈ ndL (gs p) ∧ FSg (gs p) (gs p) (gs p) (opX (gs p) x) false ρ) ∧ (any = false → ShI (gs p) 46 g2 true)) := by
  intro d
  induction d with
  | zero =>
    intro F t h g fnd X hF ht h40 hr hg hI
    obtain ⟨F, rfl⟩ : ∃ F', F = F' + 1 := ⟨F - 1, by omega⟩
    have : t = 46 := by omega
    subst this
    refine ⟨h, g, fnd, X, by rw [f_Mg_findShrinkingRow_b6_eq, if_pos (by decide), f_Mg_findShrinkingRow_b100_eq, if_pos (isZ_bI _)], Ch.rf, hr, hg, fun q => ?_, fun q => ⟨?_, fun _ => ?_⟩⟩
    · subst q; exact hI
    · obtain ⟨ρ, ⟨x, x1, x2⟩, _⟩ := hI.2 q; exact ⟨ρ, x, x1, x2⟩
    · subst q; exact hI
  | succ d ih =>
    intro F t h g fnd X hF ht h40 hr hg hI
    obtain ⟨F, rfl⟩ : ∃ F', F = F' + 1 := ⟨F - 1, by omega⟩
    have gp := hr.2.1 p (by omega)
    rw [upG_n (by omega)] at gp
    obtain ⟨ka, lc, lk, C, rw1, s⟩ := hr.se
    have e9 : upG gs 9 X p = gs p := upG_n (by omega)
    -- the next node
    have nxt : ∀ (h2 : pH) (g2 : Nat → Int32) (fnd2 : Bool) (X2 : List Nat), Ch h h2 (inB B) → RC h2 B (upG gs 9 X2) cc cl bst → h2.2 (B 24) = .inl (0, 6, .inl g2) → ShI (gs p) (t + 1) g2 fnd2 → ∃ (h2' : pH) (g2 : Nat → Int32) (b : Bool) (X2 : List Nat), f_Mg_findShrinkingRow_b94 G (f_Mg_findShrinkingRow_b6 G F) (B 43) (B p) (bI any) (bI fnd2) (nI t) h2 = some (some (.int (bI b)), h2') ∧ Ch h h2' (inB B) ∧ RC h2' B (upG gs 9 X2) cc cl bst ∧ h2'.2 (B 24) = .inl (0, 6, .inl g2) ∧ (b = false → ShI (gs p) 46 g2 false) ∧ (b = true → (∃ ρ x, x ∈ ndL (gs p) ∧ FSg (gs p) (gs p) (gs p) (opX (gs p) x) false ρ) ∧ (any = false → ShI (gs p) 46 g2 true)) := fun h2 g2 fnd2 X2 hc hr2 hg2 hI2 => by
      obtain ⟨h3, g3, b, X3, b1, b2, b3, b4, b5, b6⟩ := ih F (t + 1) h2 g2 fnd2 X2 (by omega) (by omega) (by omega) hr2 hg2 hI2
      exact ⟨h3, g3, b, X3, by rw [f_Mg_findShrinkingRow_b94_eq, nI_1, b1], hc.tr b2, b3, b4, b5, b6⟩
    -- the row is taken
    have take : ∀ (h2 : pH) (f : Nat → Int32) (X2 : List Nat), Ch h h2 (inB B) → RC h2 B (upG gs 9 X2) cc cl bst → h2.2 (B 37) = .inl (0, 6, .inl f) → (∃ g0 : Nat → Int32, h2.2 (B 24) = .inl (0, 6, .inl g0)) → (∀ g2 : Nat → Int32, (∀ i, i < 6 → g2 i = f i) → ShI (gs p) (t + 1) g2 true) → ∃ (h2' : pH) (g2 : Nat → Int32) (b : Bool) (X2 : List Nat), f_Mg_findShrinkingRow_b81 G (f_Mg_findShrinkingRow_b94 G (f_Mg_findShrinkingRow_b6 G F)) (B 43) (B p) (bI any) (nI t) h2 = some (some (.int (bI b)), h2') ∧ Ch h h2' (inB B) ∧ RC h2' B (upG gs 9 X2) cc cl bst ∧ h2'.2 (B 24) = .inl (0, 6, .inl g2) ∧ (b = false → ShI (gs p) 46 g2 false) ∧ (b = true → (∃ ρ x, x ∈ ndL (gs p) ∧ FSg (gs p) (gs p) (gs p) (opX (gs p) x) false ρ) ∧ (any = false → ShI (gs p) 46 g2 true)) := fun h2 f X2 hc hr2 hf2 ⟨g0, hg0⟩ hI2 => by
      obtain ⟨g2, c1, c2⟩ := se_giveRow (G := G) (by omega) hr2 hf2 hg0
      obtain ⟨ka2, lc2, lk2, C2, rw2, s2⟩ := hr2.se
      obtain ⟨h3, g3, b, X3, b1, b2, b3, b4, b5, b6⟩ := nxt _ g2 true X2 (hc.tr (Ch.u (S := inB B) ⟨24, by omega, rfl⟩)) (hr2.nt g2) (hU_s _ _ _) (hI2 g2 c2)
      refine ⟨h3, g3, b, X3, ?_, b2, b3, b4, b5, b6⟩
      rw [f_Mg_findShrinkingRow_b81_eq, hr2.f (v := B 25) rfl, Option.bind_some, hr2.f (v := B 24) rfl, Option.bind_some, cV_of s2.is c1]
      exact b1
    -- this node
    have body : ∃ (h2 : pH) (g2 : Nat → Int32) (b : Bool) (X2 : List Nat), f_Mg_findShrinkingRow_b21 G (f_Mg_findShrinkingRow_b6 G F) (B 43) (B p) (bI any) (bI fnd) (nI t) h = some (some (.int (bI b)), h2) ∧ Ch h h2 (inB B) ∧ RC h2 B (upG gs 9 X2) cc cl bst ∧ h2.2 (B 24) = .inl (0, 6, .inl g2) ∧ (b = false → ShI (gs p) 46 g2 false) ∧ (b = true → (∃ ρ x, x ∈ ndL (gs p) ∧ FSg (gs p) (gs p) (gs p) (opX (gs p) x) false ρ) ∧ (any = false → ShI (gs p) 46 g2 true)) := by
      rw [f_Mg_findShrinkingRow_b21_eq, cJ_of gp.is (gr_terms (by omega) gp hP.sm), cJ_of gp.is (gr_nodes (by omega) gp hP.sm), cI_of rfl (mg_isIn (by omega)), tb_nds hP, decide_eq_true h40, Bool.true_and]
      cases hs : stb 2 (gs p) t
      · rw [if_pos (show (if false = true then (1 : Int32) else 0) = 0 from rfl)]
        refine nxt h g fnd X Ch.rf hr hg ⟨fun q x hx hxn => ?_, fun q => ?_⟩
        · rcases Nat.lt_or_ge x t with q2 | q2
          · exact hI.1 q x q2 hxn
          · have : x = t := by omega
            subst this; rw [(ndL_mem.mp hxn).2] at hs; cases hs
        · obtain ⟨ρ, r1, r2, r3⟩ := hI.2 q
          refine ⟨ρ, r1, fun x hx hxn => ?_, r3⟩
          rcases Nat.lt_or_ge x t with q2 | q2
          · exact r2 x q2 hxn
          · have : x = t := by omega
            subst this; rw [(ndL_mem.mp hxn).2] at hs; cases hs
      · rw [if_neg (show ¬ (if true = true then (1 : Int32) else 0) = 0 by decide), hr.f (v := B 25) rfl, Option.bind_some]
        have tn : t ∈ ndL (gs p) := ndL_mem.mpr ⟨⟨h40, by omega⟩, hs⟩
        obtain ⟨h2, f, b, a1, a2, a3, a4, a5, a6⟩ := mg_find (G := G) (op := opX (gs p) t) (ap := false) hG hr hp hp (by rw [e9]; exact hP) (by rw [e9]; exact hP) (fun x hx => stb_lt hP ((tb_opX hP (by omega)).mp hx).1)
        rw [e9, upG_u] at a3
        rw [e9] at a5 a6
        have a1 : f_Se_find G (B 25) (B p) (B p) (tms (gs p) &&& (((1 : Int64) <<< ((nI t).toInt64 &&& 63)) ^^^ (-1 : Int64))) (0 : Int32) h = some (some (.int (bI b)), h2) := a1
        have g24 : h2.2 (B 24) = .inl (0, 6, .inl g) := by rw [a2.2 (B 24) (fun q => q.2 rfl)]; exact hg
        have hc := a2.mono (fun x hx => hx.1)
        obtain ⟨ka2, lc2, lk2, C2, rw2, s2⟩ := a3.se
        rw [cI_of s.is a1]
        cases b
        · rw [if_pos (show bI false = 0 from rfl)]
          refine nxt h2 g fnd (gs p) hc a3 g24 ⟨fun q x hx hxn => ?_, fun q => ?_⟩
          · rcases Nat.lt_or_ge x t with q2 | q2
            · exact hI.1 q x q2 hxn
            · have : x = t := by omega
              subst this; exact a5 rfl
          · obtain ⟨ρ, r1, r2, r3⟩ := hI.2 q
            refine ⟨ρ, r1, fun x hx hxn σ hσ => ?_, r3⟩
            rcases Nat.lt_or_ge x t with q2 | q2
            · exact r2 x q2 hxn σ hσ
            · have : x = t := by omega
              subst this; exact absurd hσ (a5 rfl σ)
        · rw [if_neg (show ¬ bI true = 0 by decide)]
          obtain ⟨ρ, r1, r2, r3⟩ := a6 rfl
          have r2 : ∀ σ, FSg (gs p) (gs p) (gs p) (opX (gs p) t) false σ → lexLE (gs p) ρ σ := fun σ hσ i hi hag hsi => r2 σ hσ i hi hag hsi
          cases fnd
          · rw [if_pos (show bI false = 0 from rfl)]
            refine take h2 f (gs p) hc a3 a4 ⟨g, g24⟩ (fun g2 hg2 => ⟨fun q => (by cases q), fun _ => ⟨ρ, ⟨t, tn, r1⟩, fun x hx hxn σ hσ => ?_, fun i hi => by rw [hg2 i hi]; exact r3 i hi⟩⟩)
            rcases Nat.lt_or_ge x t with q2 | q2
            · exact absurd hσ (hI.1 rfl x q2 hxn σ)
            · have : x = t := by omega
              subst this; exact r2 σ hσ
          · rw [if_neg (show ¬ bI true = 0 by decide)]
            obtain ⟨ρ0, ⟨x0, x1, x2⟩, o2, o3⟩ := hI.2 rfl
            obtain ⟨b', c1, c2, c3⟩ := mg_isBefore (G := G) (by omega) a4 (s2.1.1 37 (by omega)) g24 (s2.1.1 24 (by omega)) r3 o3 (fun i hi hsi => ⟨fsx_lt hP (by omega) r1 i hi hsi, fsx_lt hP ((ndL_mem.mp x1).1.2) x2 i hi hsi⟩)
            have rib : f_Se_rowIsBefore G (B 25) (B 24) h2 = some (some (.int (bI b')), h2) := by
              rw [f_Se_rowIsBefore_eq, s2.f (v := B 37) rfl, Option.bind_some, cI_of rfl c1, if_pos (isZ_bI b')]
            rw [a3.f (v := B 25) rfl, Option.bind_some, a3.f (v := B 24) rfl, Option.bind_some, cI_of s2.is rib]
            cases b'
            · rw [if_pos (show bI false = 0 from rfl)]
              refine nxt h2 g true (gs p) hc a3 g24 ⟨fun q => (by cases q), fun _ => ⟨ρ0, ⟨x0, x1, x2⟩, fun x hx hxn σ hσ => ?_, o3⟩⟩
              rcases Nat.lt_or_ge x t with q2 | q2
              · exact o2 x q2 hxn σ hσ
              · have : x = t := by omega
                subst this; exact (c3 rfl).tr (r2 σ hσ)
            · rw [if_neg (show ¬ bI true = 0 by decide)]
              refine take h2 f (gs p) hc a3 a4 ⟨g, g24⟩ (fun g2 hg2 => ⟨fun q => (by cases q), fun _ => ⟨ρ, ⟨t, tn, r1⟩, fun x hx hxn σ hσ => ?_, fun i hi => by rw [hg2 i hi]; exact r3 i hi⟩⟩)
              rcases Nat.lt_or_ge x t with q2 | q2
              · exact (c2 rfl).tr (o2 x q2 hxn σ hσ)
              · have : x = t := by omega
                subst this; exact r2 σ hσ
    rw [f_Mg_findShrinkingRow_b6_eq, if_neg (show ¬ (46 : Int32) ≤ nI t from nI_ge (b := 46) (by omega) (by omega))]
    cases fnd
    · rw [if_pos (show bI false = 0 from rfl)]; exact body
    · rw [if_neg (show ¬ bI true = 0 by decide)]
      cases any
      · rw [if_pos (show bI false = 0 from rfl)]; exact body
      · rw [if_neg (show ¬ bI true = 0 by decide)]
        refine ⟨h, g, true, X, by rw [f_Mg_findShrinkingRow_b100_eq, if_pos (isZ_bI _)], Ch.rf, hr, hg, fun q => (by cases q), fun _ => ⟨?_, fun q => (by cases q)⟩⟩
        obtain ⟨ρ, ⟨x, x1, x2⟩, _⟩ := hI.2 rfl
        exact ⟨ρ, x, x1, x2⟩
/-- findShrinkingRow, in the reference's words -/
theorem mg_findShrink {p : Nat} (any : Bool) (hG : 1000 ≤ G) (hr : RC h B gs cc cl bst) (hp : p < 6) (hA : Asc (gs p)) (hP : okL (gs p)) :
    ∃ (h2 : pH) (g2 : Nat → Int32) (b : Bool) (X2 : List Nat), f_Mg_findShrinkingRow G (B 43) (B p) (bI any) h = some (some (.int (bI b)), h2) ∧ Ch h h2 (inB B) ∧ RC h2 B (upG gs 9 X2) cc cl bst ∧ h2.2 (B 24) = .inl (0, 6, .inl g2) ∧ SrB (gs p) (gs p) 2 b ∧ (b = true → any = false → ∃ ρ, FS3 (gs p) (gs p) 2 ρ ∧ LM3 (gs p) (gs p) 2 ρ ∧ rowX g2 ρ (gs p)) := by
  obtain ⟨g0, hg0⟩ := hr.2.2.2.2.2.1
  obtain ⟨h2, g2, b, X2, b1, b2, b3, b4, b5, b6⟩ := mg_shrink (G := G) (p := p) (any := any) (gs := gs) hG hp hP 6 G 40 h g0 false (gs 9) (by omega) (by omega) (by omega) (by rw [upG_id]; exact hr) hg0 ⟨fun _ x hx hxn => absurd (ndL_mem.mp hxn).1.1 (by omega), fun q => (by cases q)⟩
  refine ⟨h2, g2, b, X2, by rw [f_Mg_findShrinkingRow_eq]; exact b1, b2, b3, b4, ⟨fun q => Or.inr (fun ρ hρ => ?_), fun q => ⟨fun q2 => absurd q2 (by decide), ?_⟩⟩, fun q q2 => ?_⟩
  · obtain ⟨x, x1, x2⟩ := (fs3_2 hA hP).mp hρ
    exact (b5 q).1 rfl x (ndL_mem.mp x1).1.2 x1 ρ x2
  · obtain ⟨⟨ρ, x, x1, x2⟩, _⟩ := b6 q
    exact ⟨ρ, (fs3_2 hA hP).mpr ⟨x, x1, x2⟩⟩
  · obtain ⟨ρ, r1, r2, r3⟩ := ((b6 q).2 q2).2 rfl
    refine ⟨ρ, (fs3_2 hA hP).mpr r1, fun σ hσ => ?_, r3⟩
    obtain ⟨x, x1, x2⟩ := (fs3_2 hA hP).mp hσ
    exact r2 x (ndL_mem.mp x1).1.2 x1 σ x2
theorem mg_lean_no {x1 : Int32} (hr : RC h B gs cc cl bst) (hg : ¬ okG x1) : f_Mg_lean G (B 43) x1 h = some (.inl 1, h) := by
  rw [f_Mg_lean_eq, tR_th hr.is (mg_graphAt_no hg)]
theorem mg_lean {p : Nat} (hG : 1000 ≤ G) (hr : RC h B gs cc cl bst) (hp : p < 6) (hA : Asc (gs p)) (hP : okL (gs p)) :
    ∃ (h2 : pH) (b : Bool) (X : List Nat), f_Mg_lean G (B 43) (nI p) h = some (.inr (some (.int (bI (!b)))), h2) ∧ Ch h h2 (inB B) ∧ RC h2 B (upG gs 9 X) cc cl bst ∧ SrB (gs p) (gs p) 2 b := by
  obtain ⟨h2, g2, b, X2, b1, b2, b3, b4, b5, b6⟩ := mg_findShrink (G := G) true hG hr hp hA hP
  have b1 : f_Mg_findShrinkingRow G (B 43) (B p) (1 : Int32) h = some (some (.int (bI b)), h2) := b1
  refine ⟨h2, b, X2, ?_, b2, b3, b5⟩
  rw [f_Mg_lean_eq, tR_of hr.is (mg_graphAt hr hp), cI_of hr.is b1]
  cases b
  · rw [if_pos (show bI false = 0 from rfl), f_Mg_lean_b20_eq]; rfl
  · rw [if_neg (show ¬ bI true = 0 by decide), f_Mg_lean_b20_eq]; rfl
end LNC
