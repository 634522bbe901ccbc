/-! PURE: the class's object. Its cells by number: 0..5 the graphs, 6 draft, 7 goes, 8 comes, 9 the search's pattern, 10 the form's source; 11..21 their rows; 22 the array of graphs, 23 clashes, 24 newTerms, 25 Search, 26 links, 27 choices, 28..34 its rows, 35 objects, 36 subjects, 37 row, 38 FormFinder, 39 labels, 40 row, 41 best, 42 twins, 43 the object itself -/
def BK (h : pH) (B : Nat → Nat) : Prop := (∀ i : Nat, i < 44 → B i ∈ h.1) ∧ ∀ i j : Nat, i < 44 → j < 44 → B i = B j → i = j
theorem BK.ne {h : pH} {B : Nat → Nat} (hb : BK h B) {i j : Nat} (hi : i < 44) (hj : j < 44) (hn : i ≠ j) : B i ≠ B j := fun q => hn (hb.2 i j hi hj q)
/-- all but graphs: fixed objects, and rows of no matter what, the search's tables empty -/
def FX (h : pH) (B : Nat → Nat) (cc : Int32) (cl bst : Nat → Int32) : Prop :=
  h.2 (B 43) = .inr (3, [.ref (B 22), .ref (B 6), .ref (B 7), .ref (B 8), .ref (B 23), .int cc, .ref (B 24), .ref (B 25), .ref (B 38)]) ∧
  h.2 (B 22) = .inl (2, 6, .inr (.inr (.inr (.inr (fun i => if i < 6 then some (B i) else none))))) ∧
  h.2 (B 23) = .inl (0, 92, .inl cl) ∧
  (∃ f : Nat → Int32, h.2 (B 24) = .inl (0, 6, .inl f)) ∧
  (∃ ka lc : Int32, h.2 (B 25) = .inr (1, [.ref (B 9), .int ka, .ref (B 26), .int lc, .ref (B 27), .ref (B 35), .ref (B 36), .ref (B 37)])) ∧
  (∃ f : Nat → Int32, h.2 (B 26) = .inl (0, 30, .inl f)) ∧
  h.2 (B 27) = .inl (3, 7, .inr (.inr (.inr (.inr (fun i => if i < 7 then some (B (28 + i)) else none))))) ∧
  (∀ i : Nat, i < 7 → ∃ f : Nat → Int64, h.2 (B (28 + i)) = .inl (1, 6, .inr (.inl f))) ∧
  h.2 (B 35) = .inl (1, 1840, .inr (.inl (fun _ => 0))) ∧
  h.2 (B 36) = .inl (1, 1840, .inr (.inl (fun _ => 0))) ∧
  (∃ f : Nat → Int32, h.2 (B 37) = .inl (0, 6, .inl f)) ∧
  (∃ hb : Int32, h.2 (B 38) = .inr (2, [.ref (B 10), .ref (B 39), .ref (B 40), .ref (B 41), .int hb, .ref (B 42)])) ∧
  (∃ f : Nat → Int32, h.2 (B 39) = .inl (0, 6, .inl f)) ∧
  (∃ f : Nat → Int32, h.2 (B 40) = .inl (0, 30, .inl f)) ∧
  h.2 (B 41) = .inl (0, 30, .inl bst) ∧
  (∃ f : Nat → Int32, h.2 (B 42) = .inl (0, 6, .inl f))
/-- the class's heap: its graphs, how many clashes, the clashes' row, the form's row -/
def RC (h : pH) (B : Nat → Nat) (gs : Nat → List Nat) (cc : Int32) (cl bst : Nat → Int32) : Prop := BK h B ∧ (∀ i : Nat, i < 11 → Gr h (B i) (B (11 + i)) (gs i)) ∧ FX h B cc cl bst
theorem FX.keep {h h2 : pH} {B : Nat → Nat} {cc : Int32} {cl bst : Nat → Int32} (hf : FX h B cc cl bst) (hk : ∀ i : Nat, 22 ≤ i → i < 44 → h2.2 (B i) = h.2 (B i)) : FX h2 B cc cl bst := by
  obtain ⟨a1, a2, a3, ⟨f4, a4⟩, ⟨k5, l5, a5⟩, ⟨f6, a6⟩, a7, a8, a9, a10, ⟨f11, a11⟩, ⟨b12, a12⟩, ⟨f13, a13⟩, ⟨f14, a14⟩, a15, ⟨f16, a16⟩⟩ := hf
  refine ⟨(hk 43 (by omega) (by omega)).trans a1, (hk 22 (by omega) (by omega)).trans a2, (hk 23 (by omega) (by omega)).trans a3, ⟨f4, (hk 24 (by omega) (by omega)).trans a4⟩, ⟨k5, l5, (hk 25 (by omega) (by omega)).trans a5⟩, ⟨f6, (hk 26 (by omega) (by omega)).trans a6⟩, (hk 27 (by omega) (by omega)).trans a7, fun i hi => ?_, (hk 35 (by omega) (by omega)).trans a9, (hk 36 (by omega) (by omega)).trans a10, ⟨f11, (hk 37 (by omega) (by omega)).trans a11⟩, ⟨b12, (hk 38 (by omega) (by omega)).trans a12⟩, ⟨f13, (hk 39 (by omega) (by omega)).trans a13⟩, ⟨f14, (hk 40 (by omega) (by omega)).trans a14⟩, (hk 41 (by omega) (by omega)).trans a15, ⟨f16, (hk 42 (by omega) (by omega)).trans a16⟩⟩
  obtain ⟨f, h9⟩ := a8 i hi
  exact ⟨f, (hk (28 + i) (by omega) (by omega)).trans h9⟩
/-- one graph has changed -/
theorem RC.set {h h2 : pH} {B : Nat → Nat} {gs : Nat → List Nat} {cc : Int32} {cl bst : Nat → Int32} {i : Nat} {g : List Nat} (hr : RC h B gs cc cl bst) (hi : i < 11) (hc : Ch h h2 (fun x => x = B i ∨ x = B (11 + i))) (hg : Gr h2 (B i) (B (11 + i)) g) : RC h2 B (upG gs i g) cc cl bst := by
  obtain ⟨b, r1, r2⟩ := hr
  refine ⟨⟨fun j hj => by rw [hc.1]; exact b.1 j hj, b.2⟩, fun j hj => ?_, r2.keep (fun j h1 h3 => hc.2 _ ?_)⟩
  · by_cases e : j = i
    · subst e
      show Gr h2 _ _ (if j = j then g else gs j)
      rw [if_pos rfl]; exact hg
    · show Gr h2 _ _ (if j = i then g else gs j)
      rw [if_neg e]
      refine (r1 j hj).keep hc ?_ ?_
      · rintro (q | q)
        · exact b.ne (by omega) (by omega) e q
        · exact b.ne (by omega) (by omega) (by omega) q
      · rintro (q | q)
        · exact b.ne (by omega) (by omega) (by omega) q
        · exact b.ne (by omega) (by omega) (by omega) q
  · rintro (q | q)
    · exact b.ne (by omega) (by omega) (by omega) q
    · exact b.ne (by omega) (by omega) (by omega) q
theorem RC.is {h : pH} {B : Nat → Nat} {gs : Nat → List Nat} {cc : Int32} {cl bst : Nat → Int32} (hr : RC h B gs cc cl bst) : oC h (B 43) 3 = true := oC_of hr.2.2.1 (hr.1.1 43 (by omega))
theorem aR_of {h : pH} {a kd n i v : Nat} {f : Nat → Option Nat} (hf : h.2 a = .inl (kd, n, .inr (.inr (.inr (.inr f))))) (ha : a ∈ h.1) (hi : i < n) (hn : n < 2 ^ 31) (hv : f i = some v) : aR h kd a (nI i) = some v := by
  simp [aR, oA, ha, hf, vin_nI hi hn, nI_clamp (show i < 2 ^ 31 by omega), hv]
/-- graphAt(g) -/
theorem mg_graphAt {G g : Nat} {h : pH} {B : Nat → Nat} {gs : Nat → List Nat} {cc : Int32} {cl bst : Nat → Int32} (hr : RC h B gs cc cl bst) (hg : g < 6) : f_Mg_graphAt G (B 43) (nI g) h = some (.inr (some (.ref (B g))), h) := by
  rw [f_Mg_graphAt_eq, if_neg (nI_pos (by omega)), if_pos (show nI g < 6 from nI_lt (b := 6) hg (by omega)), gR_of hr.2.2.1 (hr.1.1 43 (by omega)) rfl, Option.bind_some, aR_of (v := B g) hr.2.2.2.1 (hr.1.1 22 (by omega)) hg (by omega) (if_pos hg), Option.bind_some]
theorem mg_graphAt_no {G x : Nat} {g : Int32} {h : pH} (hg : ¬ okG g) : f_Mg_graphAt G x g h = some (.inl 1, h) := by
  rw [f_Mg_graphAt_eq]
  by_cases h1 : g < 0
  · rw [if_pos h1]; rfl
  · rw [if_neg h1, if_neg]
    · rfl
    · intro q
      rw [i_lt0] at h1
      rw [i_lt (show (6 : Int32).toInt = 6 by decide)] at q
      exact hg ⟨by omega, q⟩
/-- checkedNumber(s, v, o) -/
theorem mg_number {G s v o : Nat} {h : pH} (h1 : s < 46) (h2 : v < 40) (h3 : o < 46) : f_Mg_numberOf G (nI s) (nI v) (nI o) h = some (some (.int (nI (4096 * s + 64 * v + o))), h) := by
  have e1 : nI s <<< ((12 : Int32) &&& 31) = nI (s * 2 ^ 12) := pk_shlN _ 12 (by decide) (by omega)
  have e2 : nI v <<< ((6 : Int32) &&& 31) = nI (v * 2 ^ 6) := pk_shlN _ 6 (by decide) (by omega)
  rw [f_Mg_numberOf_eq, e1, e2, nI_add, nI_add, show s * 2 ^ 12 + v * 2 ^ 6 + o = 4096 * s + 64 * v + o by omega]
theorem mg_checked {G s v o : Nat} {h : pH} (h1 : s < 46) (h2 : v < 40) (h3 : o < 46) : f_Mg_checkedNumber G (nI s) (nI v) (nI o) h = some (.inr (some (.int (nI (4096 * s + 64 * v + o)))), h) := by
  rw [f_Mg_checkedNumber_eq, if_neg (nI_pos (by omega)), if_neg (show ¬ (46 : Int32) ≤ nI s from nI_ge (b := 46) h1 (by omega)), if_neg (nI_pos (by omega)), if_pos (show nI o < (46 : Int32) from nI_lt (b := 46) h3 (by omega)), if_neg (nI_pos (by omega)), if_pos (show nI v < (40 : Int32) from nI_lt (b := 40) h2 (by omega)), cI_of rfl (mg_number h1 h2 h3)]
theorem mg_checked_no {G : Nat} {s v o : Int32} {h : pH} (hb : ¬ okF s v o) : f_Mg_checkedNumber G s v o h = some (.inl 2, h) := by
  have e46 : (46 : Int32).toInt = 46 := by decide
  have e40 : (40 : Int32).toInt = 40 := by decide
  rw [f_Mg_checkedNumber_eq]
  by_cases h1 : s < 0
  · rw [if_pos h1]; rfl
  · rw [if_neg h1]
    by_cases h2 : (46 : Int32) ≤ s
    · rw [if_pos h2]; rfl
    · rw [if_neg h2]
      by_cases h3 : o < 0
      · rw [if_pos h3]; rfl
      · rw [if_neg h3]
        by_cases h4 : o < (46 : Int32)
        · rw [if_pos h4]
          by_cases h5 : v < 0
          · rw [if_pos h5]; rfl
          · rw [if_neg h5, if_neg]
            · rfl
            · intro h6
              rw [i_lt0] at h1 h3 h5
              rw [i_ge e46] at h2
              rw [i_lt e46] at h4
              rw [i_lt e40] at h6
              exact hb ⟨⟨by omega, by omega⟩, ⟨by omega, by omega⟩, ⟨by omega, by omega⟩⟩
        · rw [if_neg h4]; rfl
