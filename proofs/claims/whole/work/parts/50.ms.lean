/-! PURE: a fact's terms; sets of terms; size -/
def okN (n : Nat) : Prop := n / 4096 < 46 ∧ n / 64 % 64 < 40 ∧ n % 64 < 46
def okL (g : List Nat) : Prop := ∀ n ∈ g, okN n
theorem okN.lt {n : Nat} (h : okN n) : n < 2 ^ 20 := by have := h.1; omega
theorem okL.sm {g : List Nat} (h : okL g) : Sm g := Sm_mem.mpr fun n hn => (h n hn).lt
theorem okL.at {g : List Nat} (h : okL g) {k : Nat} (hk : k < g.length) : okN (g.getD k 0) := h _ (mem_getD.mpr ⟨k, hk, rfl⟩)
def bI (b : Bool) : Int32 := if b = true then 1 else 0
theorem bI_0 {b : Bool} : bI b = 0 ↔ b = false := by cases b <;> decide
theorem bI_t : bI true = 1 := rfl
theorem bI_f : bI false = 0 := rfl
theorem isZ_bI (b : Bool) : isZ (bI b) = true := by cases b <;> rfl
theorem mg_subj {G n : Nat} {h : pH} (hn : n < 2 ^ 31) : f_Mg_subjectOf G (nI n) h = some (some (.int (nI (n / 4096))), h) := by
  rw [f_Mg_subjectOf_eq, pk_shrN hn _ 12 (by decide)]
theorem mg_verb {G n : Nat} {h : pH} (hn : n < 2 ^ 31) : f_Mg_verbOf G (nI n) h = some (some (.int (nI (n / 64 % 64))), h) := by
  rw [f_Mg_verbOf_eq, pk_shrN hn _ 6 (by decide), pk_andN (by have : n / 2 ^ 6 ≤ n := Nat.div_le_self _ _; omega) 6 (by decide)]
theorem mg_obj {G n : Nat} {h : pH} (hn : n < 2 ^ 31) : f_Mg_objectOf G (nI n) h = some (some (.int (nI (n % 64))), h) := by
  rw [f_Mg_objectOf_eq, pk_andN (by omega) 6 (by decide)]
theorem mo_subj {G n : Nat} {h : pH} (hn : n < 2 ^ 31) : f_Mo_subject G (nI n) h = some (some (.int (nI (n / 4096))), h) := by
  rw [f_Mo_subject_eq, if_neg (by decide), show (4096 : Int32) = nI 4096 from rfl, pk_div hn (by decide) (by decide)]
theorem mo_obj {G n : Nat} {h : pH} (hn : n < 2 ^ 31) : f_Mo_object G (nI n) h = some (some (.int (nI (n % 64))), h) := by
  rw [f_Mo_object_eq, if_neg (by decide), show (64 : Int32) = nI 64 from rfl, pk_rem hn (by decide) (by decide)]
theorem mg_isNode {G t : Nat} {h : pH} (ht : t < 2 ^ 31) : f_Mg_isNode G (nI t) h = some (some (.int (bI (decide (40 ≤ t ∧ t < 46)))), h) := by
  rw [f_Mg_isNode_eq]
  by_cases h1 : t < 40
  · rw [if_pos (show nI t < (40 : Int32) from nI_lt (b := 40) h1 (by omega)), decide_eq_false (by omega)]; rfl
  · rw [if_neg (show ¬ nI t < (40 : Int32) from nI_nlt (b := 40) (by omega) ht)]
    by_cases h2 : t < 46
    · rw [if_neg (show ¬ (46 : Int32) ≤ nI t from nI_ge (b := 46) h2 (by omega)), decide_eq_true (by omega)]; rfl
    · rw [if_pos (show (46 : Int32) ≤ nI t from nI_le (a := 46) (by omega) ht), decide_eq_false (by omega)]; rfl
/-- taking one more of a list -/
theorem take1 {g : List Nat} {k : Nat} (hk : k < g.length) : g.take (k + 1) = g.take k ++ [g.getD k 0] := by
  rw [List.take_succ, List.getElem?_eq_getElem hk, List.getD_eq_getElem?_getD, List.getElem?_eq_getElem hk]
  rfl
theorem any1 {g : List Nat} {k : Nat} (p : Nat → Bool) (hk : k < g.length) : (g.take (k + 1)).any p = ((g.take k).any p || p (g.getD k 0)) := by
  rw [take1 hk, List.any_append]; simp
theorem all1 {g : List Nat} {k : Nat} (p : Nat → Bool) (hk : k < g.length) : (g.take (k + 1)).all p = ((g.take k).all p && p (g.getD k 0)) := by
  rw [take1 hk, List.all_append]; simp
/-- a union of sets -/
def orL (f : Nat → Int64) (g : List Nat) : Int64 := g.foldl (fun x n => x ||| f n) 0
theorem orL1 {g : List Nat} {k : Nat} (f : Nat → Int64) (hk : k < g.length) : orL f (g.take (k + 1)) = orL f (g.take k) ||| f (g.getD k 0) := by
  unfold orL; rw [take1 hk, List.foldl_append]; rfl
theorem tb_orF (f : Nat → Int64) (t : Nat) : ∀ (g : List Nat) (x : Int64), tb (g.foldl (fun x n => x ||| f n) x) t = (tb x t || g.any (fun n => tb (f n) t)) := by
  intro g
  induction g with
  | nil => intro x; simp
  | cons n g ih =>
    intro x
    rw [List.foldl_cons, ih, tb_or, List.any_cons, Bool.or_assoc]
theorem tb_orL (f : Nat → Int64) (g : List Nat) (t : Nat) : tb (orL f g) t = g.any (fun n => tb (f n) t) := by
  unfold orL; rw [tb_orF, tb_0, Bool.false_or]
def bt (t : Nat) : Int64 := (1 : Int64) <<< ((nI t).toInt64 &&& 63)
theorem tb_bt {k : Nat} (hk : k < 64) (t : Nat) : tb (bt k) t = decide (t = k) := tb_one hk t
/-- the sets of subjects, of terms, of the terms of what another graph has not -/
def sbs (g : List Nat) : Int64 := orL (fun n => bt (n / 4096)) g
def tms (g : List Nat) : Int64 := orL (fun n => bt (n / 4096) ||| bt (n % 64)) g
def tmm (o g : List Nat) : Int64 := orL (fun n => if n ∈ o then 0 else bt (n / 4096) ||| bt (n % 64)) g
def nds (g : List Nat) : Int64 := tms g &&& (69269232549888 : Int64)
/-- how a term stands in a graph: 0 as subject, 1 as object, 2 as either -/
def stb (how : Nat) (g : List Nat) (t : Nat) : Bool := g.any (fun n => (decide (how ≠ 1) && decide (n / 4096 = t)) || (decide (how ≠ 0) && decide (n % 64 = t)))
theorem tb_sbs {g : List Nat} (hg : okL g) (t : Nat) : tb (sbs g) t = stb 0 g t := by
  unfold sbs stb
  rw [tb_orL]
  apply Bool.eq_iff_iff.mpr
  rw [List.any_eq_true, List.any_eq_true]
  constructor
  · rintro ⟨n, h1, h2⟩
    have := (hg n h1).1
    rw [tb_bt (by omega), decide_eq_true_eq] at h2
    exact ⟨n, h1, by simp [h2]⟩
  · rintro ⟨n, h1, h2⟩
    have := (hg n h1).1
    simp at h2
    exact ⟨n, h1, by rw [tb_bt (by omega), decide_eq_true_eq]; exact h2.symm⟩
theorem tb_2 {n t : Nat} (hn : okN n) : tb (bt (n / 4096) ||| bt (n % 64)) t = true ↔ n / 4096 = t ∨ n % 64 = t := by
  have h1 := hn.1
  have h2 := hn.2.2
  rw [tb_or, tb_bt (by omega), tb_bt (by omega), Bool.or_eq_true, decide_eq_true_eq, decide_eq_true_eq]
  constructor
  · rintro (q | q)
    · exact Or.inl q.symm
    · exact Or.inr q.symm
  · rintro (q | q)
    · exact Or.inl q.symm
    · exact Or.inr q.symm
theorem stb2 {g : List Nat} {t : Nat} : stb 2 g t = true ↔ ∃ n, n ∈ g ∧ (n / 4096 = t ∨ n % 64 = t) := by
  unfold stb
  rw [List.any_eq_true]
  constructor
  · rintro ⟨n, h1, h2⟩; exact ⟨n, h1, by simpa using h2⟩
  · rintro ⟨n, h1, h2⟩; exact ⟨n, h1, by simpa using h2⟩
theorem stb0 {g : List Nat} {t : Nat} : stb 0 g t = true ↔ ∃ n, n ∈ g ∧ n / 4096 = t := by
  unfold stb
  rw [List.any_eq_true]
  constructor
  · rintro ⟨n, h1, h2⟩; exact ⟨n, h1, by simpa using h2⟩
  · rintro ⟨n, h1, h2⟩; exact ⟨n, h1, by simpa using h2⟩
theorem tb_tms {g : List Nat} (hg : okL g) (t : Nat) : tb (tms g) t = stb 2 g t := by
  unfold tms
  rw [tb_orL]
  apply Bool.eq_iff_iff.mpr
  rw [List.any_eq_true, stb2]
  constructor
  · rintro ⟨n, h1, h2⟩; exact ⟨n, h1, (tb_2 (hg n h1)).mp h2⟩
  · rintro ⟨n, h1, h2⟩; exact ⟨n, h1, (tb_2 (hg n h1)).mpr h2⟩
theorem stb_lt {g : List Nat} (hg : okL g) {t : Nat} (h : stb 2 g t = true) : t < 46 := by
  obtain ⟨n, h1, h2⟩ := stb2.mp h
  have h3 := (hg n h1).1
  have h4 := (hg n h1).2.2
  omega
theorem tb_tmm {o g : List Nat} (hg : okL g) (t : Nat) : tb (tmm o g) t = true ↔ ∃ n, n ∈ g ∧ n ∉ o ∧ (n / 4096 = t ∨ n % 64 = t) := by
  unfold tmm
  rw [tb_orL, List.any_eq_true]
  constructor
  · rintro ⟨n, h1, h2⟩
    by_cases hm : n ∈ o
    · rw [if_pos hm, tb_0] at h2; cases h2
    · rw [if_neg hm] at h2; exact ⟨n, h1, hm, (tb_2 (hg n h1)).mp h2⟩
  · rintro ⟨n, h1, h2, h3⟩
    exact ⟨n, h1, by rw [if_neg h2]; exact (tb_2 (hg n h1)).mpr h3⟩
theorem tb_all : ∀ t, t < 64 → tb (69269232549888 : Int64) t = decide (40 ≤ t ∧ t < 46) := by decide +kernel
theorem tb_nds {g : List Nat} (hg : okL g) (t : Nat) : tb (nds g) t = (decide (40 ≤ t) && stb 2 g t) := by
  unfold nds
  rw [tb_and, tb_tms hg]
  rcases Nat.lt_or_ge t 64 with q | q
  · rw [tb_all t q]
    cases e : stb 2 g t
    · rw [Bool.false_and, Bool.and_false]
    · have := stb_lt hg e
      rw [Bool.true_and, Bool.and_true]
      exact decide_eq_decide.mpr ⟨fun h => h.1, fun h => ⟨h, this⟩⟩
  · cases e : stb 2 g t
    · rw [Bool.false_and, Bool.and_false]
    · have := stb_lt hg e; omega
/-- how many terms, how many nodes -/
def tmc (g : List Nat) : Nat := (List.range 46).countP (stb 2 g)
def ndc (g : List Nat) : Nat := (List.range 46).countP (fun t => decide (40 ≤ t) && stb 2 g t)
theorem cnt_46 (p : Nat → Bool) (hp : ∀ t, p t = true → t < 46) : (List.range 64).countP p = (List.range 46).countP p := by
  rw [show 64 = 46 + 18 from rfl, List.range_add, List.countP_append, List.countP_map]
  have : List.countP (p ∘ fun x => 46 + x) (List.range 18) = 0 := List.countP_eq_zero.mpr fun t _ h => by
    have := hp (46 + t) h; omega
  rw [this]; rfl
theorem pcn_tms {g : List Nat} (hg : okL g) : pcn (tms g) = tmc g := by
  unfold pcn tmc
  rw [← cnt_46 (stb 2 g) (fun t h => stb_lt hg h)]
  exact List.countP_congr fun t _ => by rw [tb_tms hg]
theorem pcn_nds {g : List Nat} (hg : okL g) : pcn (nds g) = ndc g := by
  unfold pcn ndc
  rw [← cnt_46 (fun t => decide (40 ≤ t) && stb 2 g t) (fun t h => by
    rw [Bool.and_eq_true] at h; exact stb_lt hg h.2)]
  exact List.countP_congr fun t _ => by rw [tb_nds hg]
theorem tmc_le (g : List Nat) : tmc g ≤ 46 := by
  have := List.countP_le_length (p := stb 2 g) (l := List.range 46)
  rw [List.length_range] at this; exact this
theorem ndc_le (g : List Nat) : ndc g ≤ 46 := by
  have := List.countP_le_length (p := fun t => decide (40 ≤ t) && stb 2 g t) (l := List.range 46)
  rw [List.length_range] at this; exact this
section MSK
variable {G : Nat} {h : pH} {a q : Nat} {g : List Nat}
theorem gr_subjects (hG : 100 ≤ G) (hg : Gr h a q g) (hs : Sm g) : f_Gr_subjects G a h = some (some (.long (sbs g)), h) := by
  have h5 := hg.2.2.2.2.1
  have lp : ∀ (d F k : Nat), d < F → k + d = g.length → f_Gr_subjects_b4 G F a (orL (fun n => bt (n / 4096)) (g.take k)) (nI k) h = some (some (.long (sbs g)), h) := by
    intro d
    induction d with
    | zero =>
      intro F k hF hk
      obtain ⟨F, rfl⟩ : ∃ F', F = F' + 1 := ⟨F - 1, by omega⟩
      rw [f_Gr_subjects_b4_eq, hg.cnt, Option.bind_some, if_pos (nI_le (by omega) (by omega)), List.take_of_length_le (by omega)]
      rfl
    | succ d ih =>
      intro F k hF hk
      obtain ⟨F, rfl⟩ : ∃ F', F = F' + 1 := ⟨F - 1, by omega⟩
      have := hs k (by omega)
      rw [f_Gr_subjects_b4_eq, hg.cnt, Option.bind_some, if_neg (nI_ge (by omega) (by omega)), hg.row, Option.bind_some, hg.at (by omega), Option.bind_some, cI_of rfl (mg_subj (by omega)), nI_1, ← ih F (k + 1) (by omega) (by omega), orL1 _ (by omega)]
      rfl
  rw [f_Gr_subjects_eq]
  exact lp g.length G 0 (by omega) (by omega)
theorem gr_terms (hG : 100 ≤ G) (hg : Gr h a q g) (hs : Sm g) : f_Gr_terms G a h = some (some (.long (tms g)), h) := by
  have h5 := hg.2.2.2.2.1
  have lp : ∀ (d F k : Nat), d < F → k + d = g.length → f_Gr_terms_b4 G F a (orL (fun n => bt (n / 4096) ||| bt (n % 64)) (g.take k)) (nI k) h = some (some (.long (tms g)), h) := by
    intro d
    induction d with
    | zero =>
      intro F k hF hk
      obtain ⟨F, rfl⟩ : ∃ F', F = F' + 1 := ⟨F - 1, by omega⟩
      rw [f_Gr_terms_b4_eq, hg.cnt, Option.bind_some, if_pos (nI_le (by omega) (by omega)), List.take_of_length_le (by omega)]
      rfl
    | succ d ih =>
      intro F k hF hk
      obtain ⟨F, rfl⟩ : ∃ F', F = F' + 1 := ⟨F - 1, by omega⟩
      have := hs k (by omega)
      rw [f_Gr_terms_b4_eq, hg.cnt, Option.bind_some, if_neg (nI_ge (by omega) (by omega)), hg.row, Option.bind_some, hg.at (by omega), Option.bind_some, cI_of rfl (mg_subj (by omega)), hg.row, Option.bind_some, hg.at (by omega), Option.bind_some, cI_of rfl (mg_obj (by omega)), nI_1, ← ih F (k + 1) (by omega) (by omega), orL1 _ (by omega)]
      rfl
  rw [f_Gr_terms_eq]
  exact lp g.length G 0 (by omega) (by omega)
theorem gr_nodes (hG : 100 ≤ G) (hg : Gr h a q g) (hs : Sm g) : f_Gr_nodes G a h = some (some (.long (nds g)), h) := by
  rw [f_Gr_nodes_eq, cJ_of hg.is (gr_terms hG hg hs)]
  rfl
theorem gr_missing {b r : Nat} {o : List Nat} (hG : 100 ≤ G) (hg : Gr h a q g) (hs : Sm g) (hb : Gr h b r o) (ho : Asc o) (hos : Sm o) : f_Gr_termsMissing G a b h = some (some (.long (tmm o g)), h) := by
  have h5 := hg.2.2.2.2.1
  have lp : ∀ (d F k : Nat), d < F → k + d = g.length → f_Gr_termsMissing_b5 G F a b (tmm o (g.take k)) (nI k) h = some (some (.long (tmm o g)), h) := by
    intro d
    induction d with
    | zero =>
      intro F k hF hk
      obtain ⟨F, rfl⟩ : ∃ F', F = F' + 1 := ⟨F - 1, by omega⟩
      rw [f_Gr_termsMissing_b5_eq, hg.cnt, Option.bind_some, if_pos (nI_le (by omega) (by omega)), List.take_of_length_le (by omega)]
    | succ d ih =>
      intro F k hF hk
      obtain ⟨F, rfl⟩ : ∃ F', F = F' + 1 := ⟨F - 1, by omega⟩
      have := hs k (by omega)
      have e : tmm o (g.take (k + 1)) = tmm o (g.take k) ||| (if g.getD k 0 ∈ o then 0 else bt (g.getD k 0 / 4096) ||| bt (g.getD k 0 % 64)) := orL1 _ (by omega)
      rw [f_Gr_termsMissing_b5_eq, hg.cnt, Option.bind_some, if_neg (nI_ge (by omega) (by omega)), hg.row, Option.bind_some, hg.at (by omega), Option.bind_some, cI_of hb.is (gr_has (by omega) hb ho hos (by omega))]
      by_cases hm : g.getD k 0 ∈ o
      · rw [if_pos hm, if_neg (by decide), f_Gr_termsMissing_b56_eq, nI_1, ← ih F (k + 1) (by omega) (by omega), e, if_pos hm]
        have e0 : ∀ x : Int64, x ||| 0 = x := fun x => tb_ext fun t _ => by rw [tb_or, tb_0, Bool.or_false]
        rw [e0]
      · rw [if_neg hm, if_pos rfl, hg.row, Option.bind_some, hg.at (by omega), Option.bind_some, cI_of rfl (mg_subj (by omega)), hg.row, Option.bind_some, hg.at (by omega), Option.bind_some, cI_of rfl (mg_obj (by omega)), f_Gr_termsMissing_b56_eq, nI_1, ← ih F (k + 1) (by omega) (by omega), e, if_neg hm]
        rfl
  rw [f_Gr_termsMissing_eq]
  exact lp g.length G 0 (by omega) (by omega)
end MSK
section MSR
variable {G : Nat} {h : pH} {m : Nat} {A : Nat → Nat} {S : Nat → Int32} {R : Nat → Nat → Int32} {gs : Nat → List Nat}
theorem mo_stands {g t how : Nat} (hG : 100 ≤ G) (ha : moA h m A) (hR : moG R gs) (hg : g < 6) (hs : Sm (gs g)) (ht : t < 2 ^ 31) (hh : how < 3) : f_Mo_stands G m (nI g) (nI t) (nI how) (moH h m A S R) = some (some (.int (bI (stb how (gs g) t))), moH h m A S R) := by
  obtain ⟨q1, q2, q3⟩ := hR g hg
  have lp : ∀ (d F k : Nat), d < F → k + d = (gs g).length → f_Mo_stands_b6 G F m (nI g) (nI t) (nI how) (bI (stb how ((gs g).take k) t)) (nI k) (moH h m A S R) = some (some (.int (bI (stb how (gs g) t))), moH h m A S R) := by
    intro d
    induction d with
    | zero =>
      intro F k hF hk
      obtain ⟨F, rfl⟩ : ∃ F', F = F' + 1 := ⟨F - 1, by omega⟩
      rw [f_Mo_stands_b6_eq, mo_g2 ha, Option.bind_some, mo_a2 ha hg, Option.bind_some, q1, if_pos (nI_le (by omega) (by omega)), if_pos (isZ_bI _), List.take_of_length_le (by omega)]
    | succ d ih =>
      intro F k hF hk
      obtain ⟨F, rfl⟩ : ∃ F', F = F' + 1 := ⟨F - 1, by omega⟩
      have hsm := hs k (by omega)
      have e : stb how ((gs g).take (k + 1)) t = (stb how ((gs g).take k) t || ((decide (how ≠ 1) && decide ((gs g).getD k 0 / 4096 = t)) || (decide (how ≠ 0) && decide ((gs g).getD k 0 % 64 = t)))) := any1 _ (by omega)
      have i1 := ih F (k + 1) (by omega) (by omega)
      rw [e] at i1
      rw [f_Mo_stands_b6_eq, mo_g2 ha, Option.bind_some, mo_a2 ha hg, Option.bind_some, q1, if_neg (nI_ge (by omega) (by omega)), cI_of (mo_is ha) (mo_numberOf ha hg (by omega)), q3 k (by omega)]
      cases eb : stb how ((gs g).take k) t
      · rw [eb, Bool.false_or] at i1
        rw [if_pos (show bI false = 0 from rfl)]
        have e45 : f_Mo_stands_b45 G (f_Mo_stands_b58 G (f_Mo_stands_b63 G (f_Mo_stands_b6 G F))) (f_Mo_stands_b63 G (f_Mo_stands_b6 G F)) m (nI g) (nI t) (nI how) (nI k) (nI ((gs g).getD k 0)) (moH h m A S R) = f_Mo_stands_b6 G F m (nI g) (nI t) (nI how) (bI (decide (how ≠ 0) && decide ((gs g).getD k 0 % 64 = t))) (nI (k + 1)) (moH h m A S R) := by
          rw [f_Mo_stands_b45_eq]
          by_cases h0 : how = 0
          · rw [if_pos (by rw [h0]; rfl), f_Mo_stands_b62_eq, f_Mo_stands_b63_eq, nI_1, decide_eq_false (fun q => q h0), Bool.false_and]; rfl
          · rw [if_neg (nI_ne0 (by omega) (by omega)), cI_of rfl (mo_obj (by omega)), decide_eq_true (show how ≠ 0 from h0), Bool.true_and]
            by_cases h2 : (gs g).getD k 0 % 64 = t
            · rw [if_pos (by rw [h2]), f_Mo_stands_b58_eq, f_Mo_stands_b63_eq, nI_1, decide_eq_true h2]; rfl
            · rw [if_neg (fun q => h2 ((nI_eq (by omega) ht).mp q)), f_Mo_stands_b62_eq, f_Mo_stands_b63_eq, nI_1, decide_eq_false h2]; rfl
        by_cases h1 : how = 1
        · rw [if_pos (by rw [h1]; rfl), e45]
          rw [decide_eq_false (show ¬ how ≠ 1 from fun q => q h1), Bool.false_and, Bool.false_or] at i1
          exact i1
        · rw [if_neg (show ¬ nI how = (1 : Int32) from fun q => h1 ((nI_eq (b := 1) (by omega) (by omega)).mp q)), cI_of rfl (mo_subj (by omega))]
          rw [decide_eq_true (show how ≠ 1 from h1), Bool.true_and] at i1
          by_cases h2 : (gs g).getD k 0 / 4096 = t
          · rw [if_pos (by rw [h2]), f_Mo_stands_b58_eq, f_Mo_stands_b63_eq, nI_1]
            rw [decide_eq_true h2, Bool.true_or] at i1
            exact i1
          · rw [if_neg (fun q => h2 ((nI_eq (by omega) ht).mp q)), e45]
            rw [decide_eq_false h2, Bool.false_or] at i1
            exact i1
      · rw [eb, Bool.true_or] at i1
        rw [if_neg (show ¬ bI true = 0 by decide), f_Mo_stands_b58_eq, f_Mo_stands_b63_eq, nI_1]
        exact i1
  rw [f_Mo_stands_eq]
  exact lp (gs g).length G 0 (by omega) (by omega)
theorem mo_stands2 {g t : Nat} (hG : 100 ≤ G) (ha : moA h m A) (hR : moG R gs) (hg : g < 6) (hs : Sm (gs g)) (ht : t < 2 ^ 31) : f_Mo_stands G m (nI g) (nI t) 2 (moH h m A S R) = some (some (.int (bI (stb 2 (gs g) t))), moH h m A S R) := mo_stands (how := 2) hG ha hR hg hs ht (by omega)
theorem mo_stands0 {g t : Nat} (hG : 100 ≤ G) (ha : moA h m A) (hR : moG R gs) (hg : g < 6) (hs : Sm (gs g)) (ht : t < 2 ^ 31) : f_Mo_stands G m (nI g) (nI t) 0 (moH h m A S R) = some (some (.int (bI (stb 0 (gs g) t))), moH h m A S R) := mo_stands (how := 0) hG ha hR hg hs ht (by omega)
theorem cnt1 (p : Nat → Bool) (n : Nat) : (List.range (n + 1)).countP p = (List.range n).countP p + (if p n = true then 1 else 0) := by
  rw [List.range_succ, List.countP_append, List.countP_singleton]
theorem mo_nodesOf {g : Nat} (hG : 100 ≤ G) (ha : moA h m A) (hR : moG R gs) (hg : g < 6) (hs : Sm (gs g)) : f_Mo_nodesOf G m (nI g) (moH h m A S R) = some (some (.int (nI (ndc (gs g)))), moH h m A S R) := by
  have lp : ∀ (d F t : Nat), d < F → t + d = 46 → 40 ≤ t → f_Mo_nodesOf_b5 G F m (nI g) (nI ((List.range t).countP (fun t => decide (40 ≤ t) && stb 2 (gs g) t))) (nI t) (moH h m A S R) = some (some (.int (nI (ndc (gs g)))), moH h m A S R) := by
    intro d
    induction d with
    | zero =>
      intro F t hF hk _
      obtain ⟨F, rfl⟩ : ∃ F', F = F' + 1 := ⟨F - 1, by omega⟩
      have : t = 46 := by omega
      subst this
      rw [f_Mo_nodesOf_b5_eq, if_pos (by decide)]; rfl
    | succ d ih =>
      intro F t hF hk h40
      obtain ⟨F, rfl⟩ : ∃ F', F = F' + 1 := ⟨F - 1, by omega⟩
      have i1 := ih F (t + 1) (by omega) (by omega) (by omega)
      rw [cnt1, decide_eq_true h40, Bool.true_and] at i1
      rw [f_Mo_nodesOf_b5_eq, if_neg (show ¬ (46 : Int32) ≤ nI t from nI_ge (b := 46) (by omega) (by omega)), cI_of (mo_is ha) (mo_stands2 hG ha hR hg hs (by omega))]
      cases eb : stb 2 (gs g) t
      · rw [eb, if_neg (by decide), Nat.add_zero] at i1
        rw [if_pos (show bI false = 0 from rfl), f_Mo_nodesOf_b27_eq, nI_1, show ∀ x : Nat, nI x + 0 = nI x from fun x => by rw [show (0 : Int32) = nI 0 from rfl, nI_add, Nat.add_zero]]
        exact i1
      · rw [eb, if_pos rfl] at i1
        rw [if_neg (show ¬ bI true = 0 by decide), f_Mo_nodesOf_b27_eq, nI_1, nI_1]
        exact i1
  rw [f_Mo_nodesOf_eq]
  have h0 : (List.range 40).countP (fun t => decide (40 ≤ t) && stb 2 (gs g) t) = 0 := List.countP_eq_zero.mpr fun t ht => by
    have := List.mem_range.mp ht
    rw [decide_eq_false (by omega), Bool.false_and]; decide
  have := lp 6 G 40 (by omega) (by omega) (by omega)
  rw [h0] at this
  exact this
/-- size, of the reference -/
def okW (w : Int32) : Prop := 0 ≤ w.toInt ∧ w.toInt < 3
theorem mo_size21 {x1 x2 : Int32} (ha : moA h m A) : f_Mo_size_b21 G (f_Mo_size_b22 G) m x1 x2 m (moH h m A S R) = some (some (.int 0), moH h m A (upd S 0 1) R) := by
  rw [f_Mo_size_b21_eq, f_Mo_size_b22_eq, cI_of (mo_is ha) (mo_there0 ha), if_pos rfl]
theorem mo_size_no {x1 x2 : Int32} (ha : moA h m A) (hn : ¬ (okG x1 ∧ okW x2)) : f_Mo_size G m x1 x2 (moH h m A S R) = some (some (.int 0), moH h m A (upd S 0 1) R) := by
  rw [f_Mo_size_eq, cI_of rfl mo_isGraph]
  by_cases h1 : okG x1
  · rw [if_neg (by rw [if_pos h1]; decide)]
    by_cases h2 : x2 < 0
    · rw [if_pos h2, mo_size21 ha]
    · rw [if_neg h2]
      by_cases h3 : (2 : Int32) < x2
      · rw [if_pos h3, mo_size21 ha]
      · exfalso
        rw [i_lt0] at h2
        rw [Int32.lt_iff_toInt_lt, show (2 : Int32).toInt = 2 by decide] at h3
        exact hn ⟨h1, by omega, by omega⟩
  · rw [if_pos (by rw [if_neg h1]), mo_size21 ha]
def szR (g : List Nat) (w : Nat) : Nat := if w = 0 then g.length else if w = 1 then ndc g else tmc g
theorem mo_size {g w : Nat} (hG : 100 ≤ G) (ha : moA h m A) (hR : moG R gs) (hg : g < 6) (hs : Sm (gs g)) (hw : w < 3) : f_Mo_size G m (nI g) (nI w) (moH h m A S R) = some (some (.int (nI (szR (gs g) w))), moH h m A (upd S 0 0) R) := by
  obtain ⟨q1, q2, q3⟩ := hR g hg
  have lp : ∀ (d F t : Nat), d < F → t + d = 46 → f_Mo_size_b35 G F m (nI g) (nI w) (nI ((List.range t).countP (stb 2 (gs g)))) (nI t) (moH h m A (upd S 0 0) R) = some (some (.int (nI (szR (gs g) w))), moH h m A (upd S 0 0) R) := by
    intro d
    induction d with
    | zero =>
      intro F t hF hk
      obtain ⟨F, rfl⟩ : ∃ F', F = F' + 1 := ⟨F - 1, by omega⟩
      have : t = 46 := by omega
      subst this
      unfold szR
      rw [f_Mo_size_b35_eq, if_pos (by decide)]
      by_cases h0 : w = 0
      · rw [if_pos (by rw [h0]; rfl), if_pos h0, mo_g2 ha, Option.bind_some, mo_a2 ha hg, Option.bind_some, q1, f_Mo_size_b94_eq]
      · rw [if_neg (nI_ne0 (by omega) (by omega)), if_neg h0]
        by_cases h1 : w = 1
        · rw [if_pos (by rw [h1]; rfl), if_pos h1, cI_of (mo_is ha) (mo_nodesOf hG ha hR hg hs), f_Mo_size_b94_eq]
        · rw [if_neg (show ¬ nI w = (1 : Int32) from fun q => h1 ((nI_eq (b := 1) (by omega) (by omega)).mp q)), if_neg h1, f_Mo_size_b94_eq]; rfl
    | succ d ih =>
      intro F t hF hk
      obtain ⟨F, rfl⟩ : ∃ F', F = F' + 1 := ⟨F - 1, by omega⟩
      have i1 := ih F (t + 1) (by omega) (by omega)
      rw [cnt1] at i1
      rw [f_Mo_size_b35_eq, if_neg (show ¬ (46 : Int32) ≤ nI t from nI_ge (b := 46) (by omega) (by omega)), cI_of (mo_is ha) (mo_stands2 hG ha hR hg hs (by omega))]
      cases eb : stb 2 (gs g) t
      · rw [eb, if_neg (by decide), Nat.add_zero] at i1
        rw [if_pos (show bI false = 0 from rfl), f_Mo_size_b59_eq, nI_1, show ∀ x : Nat, nI x + 0 = nI x from fun x => by rw [show (0 : Int32) = nI 0 from rfl, nI_add, Nat.add_zero]]
        exact i1
      · rw [eb, if_pos rfl] at i1
        rw [if_neg (show ¬ bI true = 0 by decide), f_Mo_size_b59_eq, nI_1, nI_1]
        exact i1
  rw [f_Mo_size_eq, cI_of rfl mo_isGraph, if_neg (by rw [if_pos (okG_of hg)]; decide), if_neg (nI_pos (by omega)), if_neg (show ¬ (2 : Int32) < nI w from nI_nlt (a := 2) (by omega) (by omega)), f_Mo_size_b22_eq, cI_of (mo_is ha) (mo_there1 ha), if_neg (by decide)]
  exact lp 46 G 0 (by omega) (by omega)
end MSR
section MSC
variable {G : Nat} {h : pH} {B : Nat → Nat} {gs : Nat → List Nat} {cc : Int32} {cl bst : Nat → Int32}
/-- size, of the class -/
theorem mg_size_no1 {x1 x2 : Int32} (hr : RC h B gs cc cl bst) (hg : ¬ okG x1) : f_Mg_size G (B 43) x1 x2 h = some (.inl 1, h) := by
  rw [f_Mg_size_eq, tR_th hr.is (mg_graphAt_no hg)]
theorem mg_size_no2 {g : Nat} {x2 : Int32} (hr : RC h B gs cc cl bst) (hg : g < 6) (hw : ¬ okW x2) : f_Mg_size G (B 43) (nI g) x2 h = some (.inl 1, h) := by
  rw [f_Mg_size_eq, tR_of hr.is (mg_graphAt hr hg), if_neg (fun q => hw (by rw [q]; exact ⟨by decide, by decide⟩)), if_neg (fun q => hw (by rw [q]; exact ⟨by decide, by decide⟩)), if_neg (fun q => hw (by rw [q]; exact ⟨by decide, by decide⟩))]
theorem mg_size {g w : Nat} (hG : 100 ≤ G) (hr : RC h B gs cc cl bst) (hg : g < 6) (hl : okL (gs g)) (hw : w < 3) : f_Mg_size G (B 43) (nI g) (nI w) h = some (.inr (some (.int (nI (szR (gs g) w)))), h) := by
  have hgr := hr.2.1 g (by omega)
  unfold szR
  rw [f_Mg_size_eq, tR_of hr.is (mg_graphAt hr hg)]
  by_cases h0 : w = 0
  · rw [if_pos (by rw [h0]; rfl), if_pos h0, cI_of hgr.is (gr_count hgr)]
  · rw [if_neg (nI_ne0 (by omega) (by omega)), if_neg h0]
    by_cases h1 : w = 1
    · rw [if_pos (by rw [h1]; rfl), if_pos h1, cJ_of hgr.is (gr_nodes hG hgr hl.sm), cI_of rfl lo_bitCount, pcn_nds hl]
    · rw [if_neg (show ¬ nI w = (1 : Int32) from fun q => h1 ((nI_eq (b := 1) (by omega) (by omega)).mp q)), if_neg h1, if_pos (by rw [show w = 2 by omega]; rfl), cJ_of hgr.is (gr_terms hG hgr hl.sm), cI_of rfl lo_bitCount, pcn_tms hl]
end MSC
