/-! PURE: alike, image, follows, putting, of the class -/
/-- what a search answers: b, and the first row -/
def SrB (P T : List Nat) (w : Nat) (b : Bool) : Prop := (b = false → ¬ preW P T w ∨ ∀ ρ, ¬ FS3 P T w ρ) ∧ (b = true → preW P T w ∧ ∃ ρ, FS3 P T w ρ)
theorem SrB.un {P T : List Nat} {w : Nat} {b c : Bool} (h1 : SrB P T w b) (h2 : SrB P T w c) : b = c := by
  cases b
  · cases c
    · rfl
    · obtain ⟨p, ρ, hρ⟩ := h2.2 rfl
      rcases h1.1 rfl with q | q
      · exact absurd p q
      · exact absurd hρ (q ρ)
  · cases c
    · obtain ⟨p, ρ, hρ⟩ := h1.2 rfl
      rcases h2.1 rfl with q | q
      · exact absurd p q
      · exact absurd hρ (q ρ)
    · rfl
theorem LM3.un {P T : List Nat} {w : Nat} {ρ σ : Nat → Nat} (r1 : FS3 P T w ρ) (r2 : LM3 P T w ρ) (s1 : FS3 P T w σ) (s2 : LM3 P T w σ) : ∀ n i : Nat, i < n → i < 6 → stb 2 P (40 + i) = true → ρ i = σ i := by
  intro n
  induction n with
  | zero => intro i hi; omega
  | succ n ih =>
    intro i hi h6 hs
    have a := r2 σ s1 i h6 (fun j hj hsj => (ih j (by omega) (by omega) hsj).symm) hs
    have b := s2 ρ r1 i h6 (fun j hj hsj => ih j (by omega) (by omega) hsj) hs
    omega
/-- the term put for node x, or -1 -/
def imV (P : List Nat) (ρ : Nat → Nat) (x : Int32) : Int32 := if (40 ≤ x.toInt ∧ x.toInt < 46) ∧ stb 2 P x.toInt.toNat = true then nI (ρ (x.toInt.toNat - 40)) else -1
theorem imV_c {P : List Nat} {ρ σ : Nat → Nat} {x : Int32} (h : ∀ i, i < 6 → stb 2 P (40 + i) = true → ρ i = σ i) : imV P ρ x = imV P σ x := by
  unfold imV
  split
  · rename_i q
    rw [h _ (by omega) (by rw [show 40 + (x.toInt.toNat - 40) = x.toInt.toNat by omega]; exact q.2)]
  · rfl
theorem mg_isNode2 {G : Nat} {x : Int32} {h : pH} : f_Mg_isNode G x h = some (some (.int (bI (decide (40 ≤ x.toInt ∧ x.toInt < 46)))), h) := by
  by_cases hx : x < 0
  · have hx2 := i_lt0.mp hx
    rw [f_Mg_isNode_eq, if_pos (by rw [i_lt (show (40 : Int32).toInt = 40 by decide)]; omega), decide_eq_false (by omega)]
    rfl
  · obtain ⟨j, h1, rfl⟩ := nI_of hx
    rw [mg_isNode h1, nI_toInt h1]
    congr 5
    exact decide_eq_decide.mpr ⟨fun q => ⟨by omega, by omega⟩, fun q => ⟨by omega, by omega⟩⟩
section ALC
variable {G : Nat} {h : pH} {B : Nat → Nat} {gs : Nat → List Nat} {cc : Int32} {cl bst : Nat → Int32}
theorem se_termFor {P : List Nat} {ρ : Nat → Nat} {f : Nat → Int32} {x : Int32} (hr : RC h B gs cc cl bst) (hf : h.2 (B 37) = .inl (0, 6, .inl f)) (hx : rowX f ρ P) : f_Se_termFor G (B 25) x h = some (some (.int (imV P ρ x)), h) := by
  obtain ⟨ka, lc, lk, C, rw1, s⟩ := hr.se
  unfold imV
  rw [f_Se_termFor_eq, cI_of rfl mg_isNode2]
  by_cases q : 40 ≤ x.toInt ∧ x.toInt < 46
  · obtain ⟨j, h1, rfl⟩ := ok_nI (n := 46) (x := x) (by omega) (by omega)
    have ej : (nI j).toInt = (j : Int) := nI_toInt (by omega)
    rw [ej] at q
    have e1 : nI j - (40 : Int32) = nI (j - 40) := pk_sub (b := 40) (by omega)
    rw [ej, decide_eq_true q, if_neg (show ¬ bI true = 0 by decide), s.f (v := B 37) rfl, Option.bind_some, e1, aI_of hf (s.1.1 37 (by omega)) (by omega) (by omega), Option.bind_some, f_Se_termFor_b20_eq, hx (j - 40) (by omega), show 40 + (j - 40) = j by omega, Int.toNat_natCast]
    by_cases q2 : stb 2 P j = true
    · rw [if_pos q2, if_pos ⟨q, q2⟩]
    · rw [if_neg q2, if_neg (fun q3 => q2 q3.2)]
  · rw [decide_eq_false q, if_pos (show bI false = 0 from rfl), f_Se_termFor_b20_eq, if_neg (fun q3 => q q3.1)]
theorem fs3_0 {P T : List Nat} {ρ : Nat → Nat} : FS3 P T 0 ρ ↔ FSg P P T (nds T) true ρ := ⟨fun h => h.1, fun h => ⟨h, fun q => absurd q (by decide)⟩⟩
theorem fs3_1 {P T : List Nat} {ρ : Nat → Nat} : FS3 P T 1 ρ ↔ FSg P P T (tms T) false ρ := ⟨fun h => h.1, fun h => ⟨h, fun q => absurd q (by decide)⟩⟩
/-- the class's search, in the reference's words -/
def SrC (B : Nat → Nat) (gs : Nat → List Nat) (cc : Int32) (cl bst : Nat → Int32) (h : pH) (P T : List Nat) (w : Nat) (h2 : pH) (b : Bool) : Prop := ∃ (f : Nat → Int32) (X : List Nat), Ch h h2 (inB B) ∧ RC h2 B (upG gs 9 X) cc cl bst ∧ h2.2 (B 37) = .inl (0, 6, .inl f) ∧ (b = false → ¬ preW P T w ∨ ∀ ρ, ¬ FS3 P T w ρ) ∧ (b = true → preW P T w ∧ ∃ ρ, FS3 P T w ρ ∧ LM3 P T w ρ ∧ rowX f ρ P)
theorem mg_findImage {p t : Nat} (hG : 1000 ≤ G) (hr : RC h B gs cc cl bst) (hp : p < 6) (ht : t < 6) (oP1 : okL (gs p)) (oT : okL (gs t)) :
    ∃ (h2 : pH) (b : Bool), f_Mg_findImage G (B 43) (B p) (B t) h = some (some (.int (bI b)), h2) ∧ SrC B gs cc cl bst h (gs p) (gs t) 0 h2 b := by
  have gp := hr.2.1 p (by omega)
  have gt := hr.2.1 t (by omega)
  have lp := gp.2.2.2.2.1
  have lt := gt.2.2.2.2.1
  obtain ⟨ka, lc, lk, C, rw1, s⟩ := hr.se
  have n1 := ndL_len (g := gs p)
  have n2 := ndL_len (g := gs t)
  have no : ¬ preW (gs p) (gs t) 0 → ∃ (h2 : pH) (b : Bool), f_Mg_findImage_b49 G (f_Mg_findImage_b50 G) h = some (some (.int (bI b)), h2) ∧ SrC B gs cc cl bst h (gs p) (gs t) 0 h2 b := fun hn => ⟨h, false, by rw [f_Mg_findImage_b49_eq, f_Mg_findImage_b50_eq]; rfl, rw1, gs 9, Ch.rf, by rw [upG_id]; exact hr, s.2.2.2.2.2.2.2, fun _ => Or.inl hn, fun q => (by cases q)⟩
  rw [f_Mg_findImage_eq, cI_of gp.is (gr_count gp), cI_of gt.is (gr_count gt)]
  by_cases hL : (gs p).length = (gs t).length
  · rw [if_pos (by rw [hL]), cJ_of gp.is (gr_nodes (by omega) gp oP1.sm), cI_of rfl lo_bitCount, cJ_of gt.is (gr_nodes (by omega) gt oT.sm), cI_of rfl lo_bitCount, pcn_nds oP1, pcn_nds oT, ← ndL_c, ← ndL_c]
    by_cases hN : (ndL (gs p)).length = (ndL (gs t)).length
    · obtain ⟨h2, f, b, a1, a2, a3, a4, a5, a6⟩ := mg_find (G := G) (op := nds (gs t)) (ap := true) hG hr hp ht oP1 oT (fun x hx => opW_lt (w := 0) oT hx)
      refine ⟨h2, b, ?_, f, gs p, a2.mono (fun x hx => hx.1), a3, a4, fun q => Or.inr (fun ρ hρ => a5 q ρ (fs3_0.mp hρ)), fun q => ?_⟩
      · have a1 : f_Se_find G (B 25) (B p) (B t) (nds (gs t)) (1 : Int32) h = some (some (.int (bI b)), h2) := a1
        rw [if_pos (by rw [hN]), hr.f (v := B 25) rfl, Option.bind_some, cJ_of gt.is (gr_nodes (by omega) gt oT.sm), cI_of s.is a1]
        cases b
        · rw [if_pos (show bI false = 0 from rfl), f_Mg_findImage_b49_eq, f_Mg_findImage_b50_eq]; rfl
        · rw [if_neg (show ¬ bI true = 0 by decide), f_Mg_findImage_b50_eq]; rfl
      · obtain ⟨ρ, r1, r2, r3⟩ := a6 q
        exact ⟨fun _ => ⟨hN, hL⟩, ρ, fs3_0.mpr r1, fun σ hσ => r2 σ (fs3_0.mp hσ), r3⟩
    · rw [if_neg (fun q => hN ((nI_eq (by omega) (by omega)).mp q))]
      exact no (fun q => hN (q rfl).1)
  · rw [if_neg (fun q => hL ((nI_eq (by omega) (by omega)).mp q))]
    exact no (fun q => hL (q rfl).2)
theorem SrC.b {P T : List Nat} {w : Nat} {h2 : pH} {b : Bool} (s : SrC B gs cc cl bst h P T w h2 b) : SrB P T w b := by
  obtain ⟨f, X, _, _, _, h4, h5⟩ := s
  exact ⟨h4, fun q => ⟨(h5 q).1, (h5 q).2.elim fun ρ hρ => ⟨ρ, hρ.1⟩⟩⟩
/-- what image and putting answer -/
def ImA (P T : List Nat) (w : Nat) (x v : Int32) : Prop := ((¬ preW P T w ∨ ∀ ρ, ¬ FS3 P T w ρ) ∧ v = -1) ∨ (preW P T w ∧ ∃ ρ, FS3 P T w ρ ∧ LM3 P T w ρ ∧ v = imV P ρ x)
theorem ImA.un {P T : List Nat} {w : Nat} {x v1 v2 : Int32} (h1 : ImA P T w x v1) (h2 : ImA P T w x v2) : v1 = v2 := by
  rcases h1 with ⟨a1, a2⟩ | ⟨a1, ρ, a2, a3, a4⟩
  · rcases h2 with ⟨b1, b2⟩ | ⟨b1, σ, b2, b3, b4⟩
    · rw [a2, b2]
    · rcases a1 with q | q
      · exact absurd b1 q
      · exact absurd b2 (q σ)
  · rcases h2 with ⟨b1, b2⟩ | ⟨b1, σ, b2, b3, b4⟩
    · rcases b1 with q | q
      · exact absurd a1 q
      · exact absurd a2 (q ρ)
    · rw [a4, b4]
      exact imV_c (fun i hi hs => LM3.un a2 a3 b2 b3 6 i hi hi hs)
theorem mg_alike_no {x1 x2 : Int32} (hr : RC h B gs cc cl bst) (hn : ¬ (okG x1 ∧ okG x2)) : f_Mg_alike G (B 43) x1 x2 h = some (.inl 1, h) := by
  rw [f_Mg_alike_eq]
  by_cases h1 : okG x1
  · obtain ⟨i, hi, rfl⟩ := okG_nI h1
    rw [tR_of hr.is (mg_graphAt hr hi), tR_th hr.is (mg_graphAt_no (fun q => hn ⟨h1, q⟩))]
  · rw [tR_th hr.is (mg_graphAt_no h1)]
theorem mg_alike {p t : Nat} (hG : 1000 ≤ G) (hr : RC h B gs cc cl bst) (hp : p < 6) (ht : t < 6) (oP1 : okL (gs p)) (oT : okL (gs t)) :
    ∃ (h2 : pH) (b : Bool) (X : List Nat), f_Mg_alike G (B 43) (nI p) (nI t) h = some (.inr (some (.int (bI b))), h2) ∧ Ch h h2 (inB B) ∧ RC h2 B (upG gs 9 X) cc cl bst ∧ SrB (gs p) (gs t) 0 b := by
  obtain ⟨h2, b, a1, a2⟩ := mg_findImage (G := G) hG hr hp ht oP1 oT
  obtain ⟨f, X, b1, b2, _⟩ := id a2
  refine ⟨h2, b, X, ?_, b1, b2, a2.b⟩
  rw [f_Mg_alike_eq, tR_of hr.is (mg_graphAt hr hp), tR_of hr.is (mg_graphAt hr ht), cI_of hr.is a1, if_pos (isZ_bI b)]
theorem mg_image_no {x1 x2 x3 : Int32} (hr : RC h B gs cc cl bst) (hn : ¬ (okG x1 ∧ okG x2)) : f_Mg_image G (B 43) x1 x2 x3 h = some (.inl 1, h) := by
  rw [f_Mg_image_eq]
  by_cases h1 : okG x1
  · obtain ⟨i, hi, rfl⟩ := okG_nI h1
    rw [tR_of hr.is (mg_graphAt hr hi), tR_th hr.is (mg_graphAt_no (fun q => hn ⟨h1, q⟩))]
  · rw [tR_th hr.is (mg_graphAt_no h1)]
theorem mg_image {p t : Nat} {x : Int32} (hG : 1000 ≤ G) (hr : RC h B gs cc cl bst) (hp : p < 6) (ht : t < 6) (oP1 : okL (gs p)) (oT : okL (gs t)) :
    ∃ (h2 : pH) (v : Int32) (X : List Nat), f_Mg_image G (B 43) (nI p) (nI t) x h = some (.inr (some (.int v)), h2) ∧ Ch h h2 (inB B) ∧ RC h2 B (upG gs 9 X) cc cl bst ∧ ImA (gs p) (gs t) 0 x v := by
  obtain ⟨h2, b, a1, a2⟩ := mg_findImage (G := G) hG hr hp ht oP1 oT
  obtain ⟨f, X, b1, b2, b3, b4, b5⟩ := id a2
  obtain ⟨ka, lc, lk, C, rw1, s⟩ := b2.se
  cases b
  · refine ⟨h2, -1, X, ?_, b1, b2, Or.inl ⟨b4 rfl, rfl⟩⟩
    rw [f_Mg_image_eq, tR_of hr.is (mg_graphAt hr hp), tR_of hr.is (mg_graphAt hr ht), cI_of hr.is a1, if_pos (show bI false = 0 from rfl), f_Mg_image_b37_eq]
  · obtain ⟨c0, ρ, c1, c2, c3⟩ := b5 rfl
    refine ⟨h2, imV (gs p) ρ x, X, ?_, b1, b2, Or.inr ⟨c0, ρ, c1, c2, rfl⟩⟩
    rw [f_Mg_image_eq, tR_of hr.is (mg_graphAt hr hp), tR_of hr.is (mg_graphAt hr ht), cI_of hr.is a1, if_neg (show ¬ bI true = 0 by decide), b2.f (v := B 25) rfl, Option.bind_some, cI_of s.is (se_termFor b2 b3 c3), f_Mg_image_b37_eq]
/-- find for follows and putting: the claim p, the ground t -/
theorem mg_found {p t : Nat} (hG : 1000 ≤ G) (hr : RC h B gs cc cl bst) (hp : p < 6) (ht : t < 6) (oP1 : okL (gs p)) (oT : okL (gs t)) :
    ∃ (h2 : pH) (b : Bool), f_Se_find G (B 25) (B p) (B t) (tms (gs t)) (0 : Int32) h = some (some (.int (bI b)), h2) ∧ SrC B gs cc cl bst h (gs p) (gs t) 1 h2 b := by
  obtain ⟨h2, f, b, a1, a2, a3, a4, a5, a6⟩ := mg_find (G := G) (op := tms (gs t)) (ap := false) hG hr hp ht oP1 oT (fun x hx => opW_lt (w := 1) oT hx)
  refine ⟨h2, b, a1, f, gs p, a2.mono (fun x hx => hx.1), a3, a4, fun q => Or.inr (fun ρ hρ => a5 q ρ (fs3_1.mp hρ)), fun q => ?_⟩
  obtain ⟨ρ, r1, r2, r3⟩ := a6 q
  exact ⟨fun q2 => absurd q2 (by decide), ρ, fs3_1.mpr r1, fun σ hσ => r2 σ (fs3_1.mp hσ), r3⟩
theorem mg_follows_no {x1 x2 : Int32} (hr : RC h B gs cc cl bst) (hn : ¬ (okG x1 ∧ okG x2)) : f_Mg_follows G (B 43) x1 x2 h = some (.inl 1, h) := by
  rw [f_Mg_follows_eq]
  by_cases h1 : okG x1
  · obtain ⟨i, hi, rfl⟩ := okG_nI h1
    rw [tR_of hr.is (mg_graphAt hr hi), tR_th hr.is (mg_graphAt_no (fun q => hn ⟨h1, q⟩))]
  · rw [tR_th hr.is (mg_graphAt_no h1)]
theorem mg_follows {p t : Nat} (hG : 1000 ≤ G) (hr : RC h B gs cc cl bst) (hp : p < 6) (ht : t < 6) (oP1 : okL (gs p)) (oT : okL (gs t)) :
    ∃ (h2 : pH) (b : Bool) (X : List Nat), f_Mg_follows G (B 43) (nI t) (nI p) h = some (.inr (some (.int (bI b))), h2) ∧ Ch h h2 (inB B) ∧ RC h2 B (upG gs 9 X) cc cl bst ∧ SrB (gs p) (gs t) 1 b := by
  obtain ⟨h2, b, a1, a2⟩ := mg_found (G := G) hG hr hp ht oP1 oT
  obtain ⟨f, X, b1, b2, _⟩ := id a2
  obtain ⟨ka, lc, lk, C, rw1, s⟩ := hr.se
  have gt := hr.2.1 t (by omega)
  refine ⟨h2, b, X, ?_, b1, b2, a2.b⟩
  rw [f_Mg_follows_eq, tR_of hr.is (mg_graphAt hr ht), tR_of hr.is (mg_graphAt hr hp), hr.f (v := B 25) rfl, Option.bind_some, cJ_of gt.is (gr_terms (by omega) gt oT.sm), cI_of s.is a1, if_pos (isZ_bI b)]
theorem mg_putting_no {x1 x2 x3 : Int32} (hr : RC h B gs cc cl bst) (hn : ¬ (okG x1 ∧ okG x2)) : f_Mg_putting G (B 43) x1 x2 x3 h = some (.inl 1, h) := by
  rw [f_Mg_putting_eq]
  by_cases h1 : okG x1
  · obtain ⟨i, hi, rfl⟩ := okG_nI h1
    rw [tR_of hr.is (mg_graphAt hr hi), tR_th hr.is (mg_graphAt_no (fun q => hn ⟨h1, q⟩))]
  · rw [tR_th hr.is (mg_graphAt_no h1)]
theorem mg_putting {p t : Nat} {x : Int32} (hG : 1000 ≤ G) (hr : RC h B gs cc cl bst) (hp : p < 6) (ht : t < 6) (oP1 : okL (gs p)) (oT : okL (gs t)) :
    ∃ (h2 : pH) (v : Int32) (X : List Nat), f_Mg_putting G (B 43) (nI t) (nI p) x h = some (.inr (some (.int v)), h2) ∧ Ch h h2 (inB B) ∧ RC h2 B (upG gs 9 X) cc cl bst ∧ ImA (gs p) (gs t) 1 x v := by
  obtain ⟨h2, b, a1, a2⟩ := mg_found (G := G) hG hr hp ht oP1 oT
  obtain ⟨f, X, b1, b2, b3, b4, b5⟩ := id a2
  obtain ⟨ka, lc, lk, C, rw1, s⟩ := hr.se
  obtain ⟨ka2, lc2, lk2, C2, rw2, s2⟩ := b2.se
  have gt := hr.2.1 t (by omega)
  cases b
  · refine ⟨h2, -1, X, ?_, b1, b2, Or.inl ⟨b4 rfl, rfl⟩⟩
    rw [f_Mg_putting_eq, tR_of hr.is (mg_graphAt hr ht), tR_of hr.is (mg_graphAt hr hp), hr.f (v := B 25) rfl, Option.bind_some, cJ_of gt.is (gr_terms (by omega) gt oT.sm), cI_of s.is a1, if_pos (show bI false = 0 from rfl), f_Mg_putting_b46_eq]
  · obtain ⟨c0, ρ, c1, c2, c3⟩ := b5 rfl
    refine ⟨h2, imV (gs p) ρ x, X, ?_, b1, b2, Or.inr ⟨c0, ρ, c1, c2, rfl⟩⟩
    rw [f_Mg_putting_eq, tR_of hr.is (mg_graphAt hr ht), tR_of hr.is (mg_graphAt hr hp), hr.f (v := B 25) rfl, Option.bind_some, cJ_of gt.is (gr_terms (by omega) gt oT.sm), cI_of s.is a1, if_neg (show ¬ bI true = 0 by decide), b2.f (v := B 25) rfl, Option.bind_some, cI_of s2.is (se_termFor b2 b3 c3), f_Mg_putting_b46_eq]
end ALC
