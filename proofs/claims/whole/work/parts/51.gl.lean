/-! PURE: facts of one list put into another, by a test and a renaming -/
def addP (p : Nat → Bool) (r : Nat → Nat) (g l : List Nat) : List Nat := l.foldl (fun g n => if p n = true then gIns (r n) g else g) g
theorem addP_asc {p : Nat → Bool} {r : Nat → Nat} : ∀ (l g : List Nat), Asc g → Asc (addP p r g l) := by
  intro l
  induction l with
  | nil => intro g hg; exact hg
  | cons n l ih =>
    intro g hg
    show Asc (addP p r (if p n = true then gIns (r n) g else g) l)
    split
    · exact ih _ (gIns_asc hg)
    · exact ih _ hg
theorem addP_mem {p : Nat → Bool} {r : Nat → Nat} {m : Nat} : ∀ (l g : List Nat), m ∈ addP p r g l ↔ m ∈ g ∨ ∃ n, n ∈ l ∧ p n = true ∧ r n = m := by
  intro l
  induction l with
  | nil => intro g; exact ⟨Or.inl, fun h => h.elim id (fun ⟨n, h1, _⟩ => absurd h1 List.not_mem_nil)⟩
  | cons n l ih =>
    intro g
    show m ∈ addP p r (if p n = true then gIns (r n) g else g) l ↔ _
    rw [ih]
    constructor
    · rintro (h | ⟨k, h1, h2, h3⟩)
      · split at h
        · rename_i hp
          rcases gIns_mem.mp h with q | q
          · exact Or.inl q
          · exact Or.inr ⟨n, List.mem_cons_self, hp, q.symm⟩
        · exact Or.inl h
      · exact Or.inr ⟨k, List.mem_cons_of_mem _ h1, h2, h3⟩
    · rintro (h | ⟨k, h1, h2, h3⟩)
      · left
        split
        · exact gIns_mem.mpr (Or.inl h)
        · exact h
      · rcases List.mem_cons.mp h1 with q | q
        · subst q
          left
          rw [if_pos h2]
          exact gIns_mem.mpr (Or.inr h3.symm)
        · exact Or.inr ⟨k, q, h2, h3⟩
theorem gIns_le {n : Nat} {g : List Nat} (ha : Asc g) : g.length ≤ (gIns n g).length := by
  by_cases h : n ∈ g
  · rw [gIns_id ha h]; exact Nat.le_refl _
  · rw [gIns_len ha h]; omega
theorem gIns_le1 {n : Nat} {g : List Nat} (ha : Asc g) : (gIns n g).length ≤ g.length + 1 := by
  by_cases h : n ∈ g
  · rw [gIns_id ha h]; omega
  · rw [gIns_len ha h]; omega
theorem addP_len {p : Nat → Bool} {r : Nat → Nat} : ∀ (l g : List Nat), Asc g → g.length ≤ (addP p r g l).length := by
  intro l
  induction l with
  | nil => intro g _; exact Nat.le_refl _
  | cons n l ih =>
    intro g hg
    show _ ≤ (addP p r (if p n = true then gIns (r n) g else g) l).length
    split
    · exact Nat.le_trans (gIns_le hg) (ih _ (gIns_asc hg))
    · exact ih _ hg
theorem addP_len1 {p : Nat → Bool} {r : Nat → Nat} : ∀ (l g : List Nat), Asc g → (addP p r g l).length ≤ g.length + l.length := by
  intro l
  induction l with
  | nil => intro g _; exact Nat.le_refl _
  | cons n l ih =>
    intro g hg
    show (addP p r (if p n = true then gIns (r n) g else g) l).length ≤ _
    rw [List.length_cons]
    split
    · have h1 := ih _ (gIns_asc (n := r n) hg)
      have h2 := gIns_le1 (n := r n) hg
      omega
    · have := ih _ hg
      omega
theorem addP_app {p : Nat → Bool} {r : Nat → Nat} {g l l2 : List Nat} : addP p r g (l ++ l2) = addP p r (addP p r g l) l2 := List.foldl_append
theorem addP1 {p : Nat → Bool} {r : Nat → Nat} {g l : List Nat} {k : Nat} (hk : k < l.length) : addP p r g (l.take (k + 1)) = if p (l.getD k 0) = true then gIns (r (l.getD k 0)) (addP p r g (l.take k)) else addP p r g (l.take k) := by
  rw [take1 hk, addP_app]; rfl
theorem addP_take {p : Nat → Bool} {r : Nat → Nat} {g l : List Nat} (k : Nat) (hg : Asc g) : (addP p r g (l.take k)).length ≤ (addP p r g l).length := by
  have h := addP_len (p := p) (r := r) (l.drop k) (addP p r g (l.take k)) (addP_asc _ _ hg)
  rw [← addP_app, List.take_append_drop] at h
  exact h
theorem addP_sm {p : Nat → Bool} {r : Nat → Nat} {g l : List Nat} (hg : Sm g) (hr : ∀ n ∈ l, p n = true → r n < 2 ^ 20) : Sm (addP p r g l) := Sm_mem.mpr fun m hm => by
  rcases (addP_mem l g).mp hm with h | ⟨n, h1, h2, h3⟩
  · exact Sm_mem.mp hg m h
  · rw [← h3]; exact hr n h1 h2
theorem addP_ok {p : Nat → Bool} {r : Nat → Nat} {g l : List Nat} (hg : okL g) (hr : ∀ n ∈ l, p n = true → okN (r n)) : okL (addP p r g l) := fun m hm => by
  rcases (addP_mem l g).mp hm with h | ⟨n, h1, h2, h3⟩
  · exact hg m h
  · rw [← h3]; exact hr n h1 h2
theorem put_fit {g : List Nat} {n : Nat} (ha : Asc g) (h : (gIns n g).length ≤ 30) : putG g n = gIns n g ∧ ¬ putR g n = -1 := by
  unfold putG putR
  by_cases hm : n ∈ g
  · rw [if_pos hm, if_pos hm, gIns_id ha hm]; exact ⟨rfl, by decide⟩
  · rw [gIns_len ha hm] at h
    rw [if_neg hm, if_neg hm, if_neg (by omega), if_neg (by omega)]; exact ⟨rfl, by decide⟩
theorem put_full {g : List Nat} {n : Nat} (ha : Asc g) (hl : g.length ≤ 30) (h : ¬ (gIns n g).length ≤ 30) : putG g n = g ∧ putR g n = -1 := by
  unfold putG putR
  by_cases hm : n ∈ g
  · rw [gIns_id ha hm] at h; omega
  · rw [gIns_len ha hm] at h
    rw [if_neg hm, if_neg hm, if_pos (by omega), if_pos (by omega)]; exact ⟨rfl, rfl⟩
theorem asc_nil : Asc [] := fun i j _ hj => absurd hj (by simp)
theorem sm_nil : Sm [] := fun i hi => absurd hi (by simp)
theorem ok_nil : okL [] := fun n hn => absurd hn List.not_mem_nil
/-- what a has and b has not -/
def dif (a b : List Nat) : List Nat := a.filter (fun n => decide (n ∉ b))
theorem dif_mem {a b : List Nat} {n : Nat} : n ∈ dif a b ↔ n ∈ a ∧ n ∉ b := by
  unfold dif; rw [List.mem_filter, decide_eq_true_eq]
theorem dif_asc {a b : List Nat} (ha : Asc a) : Asc (dif a b) := asc_filter _ ha
theorem dif_ok {a b : List Nat} (ha : okL a) : okL (dif a b) := fun n hn => ha n (dif_mem.mp hn).1
theorem dif_len {a b : List Nat} : (dif a b).length ≤ a.length := List.length_filter_le _ _
theorem add_dif {a b : List Nat} (ha : Asc a) : addP (fun n => decide (n ∉ b)) id [] a = dif a b := asc_ext (addP_asc _ _ asc_nil) (dif_asc ha) fun m => by
  rw [addP_mem, dif_mem]
  constructor
  · rintro (h | ⟨n, h1, h2, h3⟩)
    · exact absurd h List.not_mem_nil
    · have h3 : n = m := h3
      subst h3; exact ⟨h1, of_decide_eq_true h2⟩
  · rintro ⟨h1, h2⟩; exact Or.inr ⟨m, h1, decide_eq_true h2, rfl⟩
section GLP
variable {G : Nat} {a q b r c s e u : Nat} {g l o w : List Nat}
/-- the cells of one Graph -/
def cel (a q : Nat) : Nat → Prop := fun x => x = a ∨ x = q
/-- insertMissing(from, other) -/
theorem gr_insMiss (hG : 100 ≤ G) {h : pH} (hg : Gr h a q g) (hA : Asc g) (hS : Sm g) (hb : Gr h b r l) (hl : Sm l) (hc : Gr h c s o) (hoA : Asc o) (hoS : Sm o) (d1 : ¬ cel a q b) (d2 : ¬ cel a q r) (d3 : ¬ cel a q c) (d4 : ¬ cel a q s) :
    ∃ (h2 : pH) (g2 : List Nat), f_Gr_insertMissing G a b c h = some (some (.int (bI (decide ((addP (fun n => decide (n ∉ o)) id g l).length ≤ 30)))), h2) ∧ Ch h h2 (cel a q) ∧ Gr h2 a q g2 ∧ ((addP (fun n => decide (n ∉ o)) id g l).length ≤ 30 → g2 = addP (fun n => decide (n ∉ o)) id g l) := by
  have h5 := hb.2.2.2.2.1
  have lp : ∀ (d F k : Nat) (h : pH), d < F → k + d = l.length → Gr h b r l → Gr h c s o → Gr h a q (addP (fun n => decide (n ∉ o)) id g (l.take k)) →
      ∃ (h2 : pH) (g2 : List Nat), f_Gr_insertMissing_b2 G F a b c (nI k) h = some (some (.int (bI (decide ((addP (fun n => decide (n ∉ o)) id g l).length ≤ 30)))), h2) ∧ Ch h h2 (cel a q) ∧ Gr h2 a q g2 ∧ ((addP (fun n => decide (n ∉ o)) id g l).length ≤ 30 → g2 = addP (fun n => decide (n ∉ o)) id g l) := by
    intro d
    induction d with
    | zero =>
      intro F k h hF hk hb hc hg
      obtain ⟨F, rfl⟩ : ∃ F', F = F' + 1 := ⟨F - 1, by omega⟩
      have h6 := hg.2.2.2.2.1
      rw [List.take_of_length_le (by omega)] at hg h6
      refine ⟨h, _, ?_, Ch.rf, hg, fun _ => rfl⟩
      rw [f_Gr_insertMissing_b2_eq, hb.cnt, Option.bind_some, if_pos (nI_le (by omega) (by omega)), decide_eq_true h6]
      rfl
    | succ d ih =>
      intro F k h hF hk hb hc hg
      obtain ⟨F, rfl⟩ : ∃ F', F = F' + 1 := ⟨F - 1, by omega⟩
      have hsm := hl k (by omega)
      have h6 := hg.2.2.2.2.1
      have e1 := addP1 (p := fun n => decide (n ∉ o)) (r := id) (g := g) (l := l) (k := k) (by omega)
      have hA1 : Asc (addP (fun n => decide (n ∉ o)) id g (l.take k)) := addP_asc _ _ hA
      have hS1 : Sm (addP (fun n => decide (n ∉ o)) id g (l.take k)) := addP_sm hS fun n hn _ => Sm_mem.mp hl n (List.mem_of_mem_take hn)
      have mt := addP_take (p := fun n => decide (n ∉ o)) (r := id) (g := g) (l := l) (k + 1) hA
      rw [f_Gr_insertMissing_b2_eq, hb.cnt, Option.bind_some, if_neg (nI_ge (by omega) (by omega)), hb.row, Option.bind_some, hb.at (by omega), Option.bind_some, cI_of hc.is (gr_has (by omega) hc hoA hoS hsm)]
      by_cases hm : l.getD k 0 ∈ o
      · rw [if_neg (by rw [decide_eq_true_eq]; exact fun q => q hm)] at e1
        rw [if_pos hm, if_neg (by decide), f_Gr_insertMissing_b39_eq, nI_1]
        exact ih F (k + 1) h (by omega) (by omega) hb hc (by rw [e1]; exact hg)
      · rw [if_pos (decide_eq_true hm)] at e1
        rw [if_neg hm, if_pos rfl]
        obtain ⟨h2, b1, b2, b3⟩ := gr_insert (G := G) (n := l.getD k 0) hG hg hA1 hS1 hsm
        rw [cI_of hg.is b1]
        by_cases hf : (gIns (l.getD k 0) (addP (fun n => decide (n ∉ o)) id g (l.take k))).length ≤ 30
        · obtain ⟨p1, p2⟩ := put_fit hA1 hf
          rw [if_neg p2, f_Gr_insertMissing_b39_eq, nI_1]
          obtain ⟨h3, g3, c1, c2, c3, c4⟩ := ih F (k + 1) h2 (by omega) (by omega) (hb.keep b2 d1 d2) (hc.keep b2 d3 d4) (by rw [e1]; rw [p1] at b3; exact b3)
          exact ⟨h3, g3, c1, b2.tr c2, c3, c4⟩
        · obtain ⟨p1, p2⟩ := put_full hA1 h6 hf
          have hn : ¬ (addP (fun n => decide (n ∉ o)) id g l).length ≤ 30 := fun q => by
            rw [e1] at mt
            exact hf (Nat.le_trans mt q)
          refine ⟨h2, _, ?_, b2, b3, fun q => absurd q hn⟩
          rw [if_pos p2, decide_eq_false hn]
          rfl
  have := lp l.length G 0 h (by omega) (by omega) hb hc hg
  rw [f_Gr_insertMissing_eq]
  exact this
/-- insertKept(origin, first, second): it always fits where origin fits -/
theorem gr_insKept (hG : 100 ≤ G) {h : pH} (hg : Gr h a q []) (hb : Gr h b r l) (hl : Sm l) (hc : Gr h c s o) (hoA : Asc o) (hoS : Sm o) (he : Gr h e u w) (hwA : Asc w) (hwS : Sm w) (d1 : ¬ cel a q b) (d2 : ¬ cel a q r) (d3 : ¬ cel a q c) (d4 : ¬ cel a q s) (d5 : ¬ cel a q e) (d6 : ¬ cel a q u) :
    ∃ h2 : pH, f_Gr_insertKept G a b c e h = some (none, h2) ∧ Ch h h2 (cel a q) ∧ Gr h2 a q (addP (fun n => decide (n ∈ o) && decide (n ∈ w)) id [] l) := by
  have h5 := hb.2.2.2.2.1
  have lp : ∀ (d F k : Nat) (h : pH), d < F → k + d = l.length → Gr h b r l → Gr h c s o → Gr h e u w → Gr h a q (addP (fun n => decide (n ∈ o) && decide (n ∈ w)) id [] (l.take k)) →
      ∃ h2 : pH, f_Gr_insertKept_b3 G F a b c e (nI k) h = some (none, h2) ∧ Ch h h2 (cel a q) ∧ Gr h2 a q (addP (fun n => decide (n ∈ o) && decide (n ∈ w)) id [] l) := by
    intro d
    induction d with
    | zero =>
      intro F k h hF hk hb hc he hg
      obtain ⟨F, rfl⟩ : ∃ F', F = F' + 1 := ⟨F - 1, by omega⟩
      rw [List.take_of_length_le (by omega)] at hg
      refine ⟨h, ?_, Ch.rf, hg⟩
      rw [f_Gr_insertKept_b3_eq, hb.cnt, Option.bind_some, if_pos (nI_le (by omega) (by omega))]
    | succ d ih =>
      intro F k h hF hk hb hc he hg
      obtain ⟨F, rfl⟩ : ∃ F', F = F' + 1 := ⟨F - 1, by omega⟩
      have hsm := hl k (by omega)
      have e1 := addP1 (p := fun n => decide (n ∈ o) && decide (n ∈ w)) (r := id) (g := []) (l := l) (k := k) (by omega)
      have hA1 : Asc (addP (fun n => decide (n ∈ o) && decide (n ∈ w)) id [] (l.take k)) := addP_asc _ _ asc_nil
      have hS1 : Sm (addP (fun n => decide (n ∈ o) && decide (n ∈ w)) id [] (l.take k)) := addP_sm sm_nil fun n hn _ => Sm_mem.mp hl n (List.mem_of_mem_take hn)
      have mt := addP_len1 (p := fun n => decide (n ∈ o) && decide (n ∈ w)) (r := id) (l.take (k + 1)) [] asc_nil
      rw [List.length_take, List.length_nil] at mt
      rw [f_Gr_insertKept_b3_eq, hb.cnt, Option.bind_some, if_neg (nI_ge (by omega) (by omega)), hb.row, Option.bind_some, hb.at (by omega), Option.bind_some, cI_of hc.is (gr_has (by omega) hc hoA hoS hsm)]
      by_cases hm : l.getD k 0 ∈ o
      · rw [if_pos hm, if_neg (by decide), cI_of he.is (gr_has (by omega) he hwA hwS hsm)]
        by_cases hm2 : l.getD k 0 ∈ w
        · rw [if_pos (by rw [decide_eq_true hm, decide_eq_true hm2]; rfl)] at e1
          rw [if_pos hm2, if_neg (by decide)]
          obtain ⟨h2, b1, b2, b3⟩ := gr_insert (G := G) (n := l.getD k 0) hG hg hA1 hS1 hsm
          rw [cI_of hg.is b1, f_Gr_insertKept_b46_eq, nI_1]
          have hf : (gIns (l.getD k 0) (addP (fun n => decide (n ∈ o) && decide (n ∈ w)) id [] (l.take k))).length ≤ 30 := by
            rw [e1] at mt
            simp only [id] at mt
            omega
          obtain ⟨p1, p2⟩ := put_fit hA1 hf
          obtain ⟨h3, c1, c2, c3⟩ := ih F (k + 1) h2 (by omega) (by omega) (hb.keep b2 d1 d2) (hc.keep b2 d3 d4) (he.keep b2 d5 d6) (by rw [e1]; rw [p1] at b3; exact b3)
          exact ⟨h3, c1, b2.tr c2, c3⟩
        · rw [if_neg (by rw [decide_eq_false hm2, Bool.and_false]; decide)] at e1
          rw [if_neg hm2, if_pos rfl, f_Gr_insertKept_b46_eq, nI_1]
          exact ih F (k + 1) h (by omega) (by omega) hb hc he (by rw [e1]; exact hg)
      · rw [if_neg (by rw [decide_eq_false hm, Bool.false_and]; decide)] at e1
        rw [if_neg hm, if_pos rfl, f_Gr_insertKept_b46_eq, nI_1]
        exact ih F (k + 1) h (by omega) (by omega) hb hc he (by rw [e1]; exact hg)
  have := lp l.length G 0 h (by omega) (by omega) hb hc he hg
  rw [f_Gr_insertKept_eq]
  exact this
/-- insertAll(other), where it fits -/
theorem gr_insAll (hG : 100 ≤ G) {h : pH} (hg : Gr h a q g) (hA : Asc g) (hS : Sm g) (hb : Gr h b r l) (hl : Sm l) (hf : (addP (fun _ => true) id g l).length ≤ 30) (d1 : ¬ cel a q b) (d2 : ¬ cel a q r) :
    ∃ h2 : pH, f_Gr_insertAll G a b h = some (none, h2) ∧ Ch h h2 (cel a q) ∧ Gr h2 a q (addP (fun _ => true) id g l) := by
  have h5 := hb.2.2.2.2.1
  have lp : ∀ (d F k : Nat) (h : pH), d < F → k + d = l.length → Gr h b r l → Gr h a q (addP (fun _ => true) id g (l.take k)) →
      ∃ h2 : pH, f_Gr_insertAll_b2 G F a b (nI k) h = some (none, h2) ∧ Ch h h2 (cel a q) ∧ Gr h2 a q (addP (fun _ => true) id g l) := by
    intro d
    induction d with
    | zero =>
      intro F k h hF hk hb hg
      obtain ⟨F, rfl⟩ : ∃ F', F = F' + 1 := ⟨F - 1, by omega⟩
      rw [List.take_of_length_le (by omega)] at hg
      refine ⟨h, ?_, Ch.rf, hg⟩
      rw [f_Gr_insertAll_b2_eq, hb.cnt, Option.bind_some, if_pos (nI_le (by omega) (by omega))]
    | succ d ih =>
      intro F k h hF hk hb hg
      obtain ⟨F, rfl⟩ : ∃ F', F = F' + 1 := ⟨F - 1, by omega⟩
      have hsm := hl k (by omega)
      have e1 := addP1 (p := fun _ => true) (r := id) (g := g) (l := l) (k := k) (by omega)
      rw [if_pos rfl] at e1
      have hA1 : Asc (addP (fun _ => true) id g (l.take k)) := addP_asc _ _ hA
      have hS1 : Sm (addP (fun _ => true) id g (l.take k)) := addP_sm hS fun n hn _ => Sm_mem.mp hl n (List.mem_of_mem_take hn)
      have mt := addP_take (p := fun _ => true) (r := id) (g := g) (l := l) (k + 1) hA
      obtain ⟨h2, b1, b2, b3⟩ := gr_insert (G := G) (n := l.getD k 0) hG hg hA1 hS1 hsm
      obtain ⟨p1, p2⟩ := put_fit (n := l.getD k 0) hA1 (by rw [e1] at mt; exact Nat.le_trans mt hf)
      obtain ⟨h3, c1, c2, c3⟩ := ih F (k + 1) h2 (by omega) (by omega) (hb.keep b2 d1 d2) (by rw [e1]; rw [p1] at b3; exact b3)
      refine ⟨h3, ?_, b2.tr c2, c3⟩
      rw [f_Gr_insertAll_b2_eq, hb.cnt, Option.bind_some, if_neg (nI_ge (by omega) (by omega)), hb.row, Option.bind_some, hb.at (by omega), Option.bind_some, cI_of hg.is b1, nI_1, c1]
  have := lp l.length G 0 h (by omega) (by omega) hb hg
  rw [f_Gr_insertAll_eq]
  exact this
/-- eraseAll(other) -/
theorem dif_take1 {k : Nat} (hA : Asc g) (hk : k < l.length) : gDel (l.getD k 0) (dif g (l.take k)) = dif g (l.take (k + 1)) := asc_ext (gDel_asc (dif_asc hA)) (dif_asc hA) fun m => by
  rw [gDel_mem, dif_mem, dif_mem, mem_take1 hk]
  constructor
  · rintro ⟨⟨h1, h2⟩, h3⟩; exact ⟨h1, fun q => q.elim h2 h3⟩
  · rintro ⟨h1, h2⟩; exact ⟨⟨h1, fun q => h2 (Or.inl q)⟩, fun q => h2 (Or.inr q)⟩
theorem gr_eraAll (hG : 100 ≤ G) {h : pH} (hg : Gr h a q g) (hA : Asc g) (hS : Sm g) (hb : Gr h b r l) (hl : Sm l) (d1 : ¬ cel a q b) (d2 : ¬ cel a q r) :
    ∃ h2 : pH, f_Gr_eraseAll G a b h = some (none, h2) ∧ Ch h h2 (cel a q) ∧ Gr h2 a q (dif g l) := by
  have h5 := hb.2.2.2.2.1
  have lp : ∀ (d F k : Nat) (h : pH), d < F → k + d = l.length → Gr h b r l → Gr h a q (dif g (l.take k)) →
      ∃ h2 : pH, f_Gr_eraseAll_b2 G F a b (nI k) h = some (none, h2) ∧ Ch h h2 (cel a q) ∧ Gr h2 a q (dif g l) := by
    intro d
    induction d with
    | zero =>
      intro F k h hF hk hb hg
      obtain ⟨F, rfl⟩ : ∃ F', F = F' + 1 := ⟨F - 1, by omega⟩
      rw [List.take_of_length_le (by omega)] at hg
      refine ⟨h, ?_, Ch.rf, hg⟩
      rw [f_Gr_eraseAll_b2_eq, hb.cnt, Option.bind_some, if_pos (nI_le (by omega) (by omega))]
    | succ d ih =>
      intro F k h hF hk hb hg
      obtain ⟨F, rfl⟩ : ∃ F', F = F' + 1 := ⟨F - 1, by omega⟩
      have hsm := hl k (by omega)
      have hS1 : Sm (dif g (l.take k)) := Sm_mem.mpr fun m hm => Sm_mem.mp hS m (dif_mem.mp hm).1
      obtain ⟨h2, b1, b2, b3⟩ := gr_erase (G := G) (n := l.getD k 0) hG hg (dif_asc hA) hS1 hsm
      rw [dif_take1 hA (by omega)] at b3
      obtain ⟨h3, c1, c2, c3⟩ := ih F (k + 1) h2 (by omega) (by omega) (hb.keep b2 d1 d2) b3
      refine ⟨h3, ?_, b2.tr c2, c3⟩
      rw [f_Gr_eraseAll_b2_eq, hb.cnt, Option.bind_some, if_neg (nI_ge (by omega) (by omega)), hb.row, Option.bind_some, hb.at (by omega), Option.bind_some, cI_of hg.is b1, nI_1, c1]
  have e0 : dif g (l.take 0) = g := asc_ext (dif_asc hA) hA fun m => by rw [dif_mem]; simp
  have := lp l.length G 0 h (by omega) (by omega) hb (by rw [e0]; exact hg)
  rw [f_Gr_eraseAll_eq]
  exact this
/-- countShared(other) -/
theorem gr_shared (hG : 100 ≤ G) {h : pH} (hg : Gr h a q g) (hS : Sm g) (hb : Gr h b r l) (hlA : Asc l) (hl : Sm l) : f_Gr_countShared G a b h = some (some (.int (nI (g.countP (fun n => decide (n ∈ l))))), h) := by
  have h5 := hg.2.2.2.2.1
  have lp : ∀ (d F k : Nat), d < F → k + d = g.length → f_Gr_countShared_b4 G F a b (nI ((g.take k).countP (fun n => decide (n ∈ l)))) (nI k) h = some (some (.int (nI (g.countP (fun n => decide (n ∈ l))))), h) := by
    intro d
    induction d with
    | zero =>
      intro F k hF hk
      obtain ⟨F, rfl⟩ : ∃ F', F = F' + 1 := ⟨F - 1, by omega⟩
      rw [f_Gr_countShared_b4_eq, hg.cnt, Option.bind_some, if_pos (nI_le (by omega) (by omega)), List.take_of_length_le (by omega)]
    | succ d ih =>
      intro F k hF hk
      obtain ⟨F, rfl⟩ : ∃ F', F = F' + 1 := ⟨F - 1, by omega⟩
      have hsm := hS k (by omega)
      have i1 := ih F (k + 1) (by omega) (by omega)
      rw [take1 (by omega), List.countP_append, List.countP_singleton] at i1
      rw [f_Gr_countShared_b4_eq, hg.cnt, Option.bind_some, if_neg (nI_ge (by omega) (by omega)), hg.row, Option.bind_some, hg.at (by omega), Option.bind_some, cI_of hb.is (gr_has (by omega) hb hlA hl hsm)]
      by_cases hm : g.getD k 0 ∈ l
      · rw [if_pos (decide_eq_true hm)] at i1
        rw [if_pos hm, if_neg (by decide), f_Gr_countShared_b28_eq, nI_1, nI_1]
        exact i1
      · rw [if_neg (by rw [decide_eq_true_eq]; exact hm), Nat.add_zero] at i1
        rw [if_neg hm, if_pos rfl, f_Gr_countShared_b28_eq, nI_1]
        exact i1
  rw [f_Gr_countShared_eq]
  exact lp g.length G 0 (by omega) (by omega)
end GLP
