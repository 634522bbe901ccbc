/-- the row of a Graph while it is shifted down -/
def shD (f : Nat → Int32) (i m : Nat) : Nat → Int32 := fun j => if i ≤ j ∧ j < m then f (j + 1) else f j
theorem del_loop {G a q m : Nat} {h : pH} (haL : a ∈ h.1) (hqL : q ∈ h.1) (haq : a ≠ q) (hfa : h.2 a = .inr (0, [.ref q, .int (nI m)])) (hm : m ≤ 29) :
    ∀ (d F i : Nat) (f : Nat → Int32), d < F → i + d = m →
      f_Gr_erase_b29 G F a (nI i) (hU h q (.inl (0, 30, .inl f))) = some (some (.int 1), hU h q (.inl (0, 30, .inl (shD f i m)))) := by
  have ea : ∀ g' : Nat → Int32, (hU h q (.inl (0, 30, .inl g'))).2 a = .inr (0, [.ref q, .int (nI m)]) := fun g' => (hU_n h _ haq).trans hfa
  have eq : ∀ g' : Nat → Int32, (hU h q (.inl (0, 30, .inl g'))).2 q = .inl (0, 30, .inl g') := fun g' => hU_s h q _
  intro d
  induction d with
  | zero =>
    intro F i f hF hi
    obtain ⟨F, rfl⟩ : ∃ F', F = F' + 1 := ⟨F - 1, by omega⟩
    have e0 : shD f i m = f := funext fun j => by unfold shD; rw [if_neg (by omega)]
    rw [f_Gr_erase_b29_eq, gI_of (ea f) haL rfl, Option.bind_some, if_pos (nI_le (by omega) (by omega)), e0]
  | succ d ih =>
    intro F i f hF hi
    obtain ⟨F, rfl⟩ : ∃ F', F = F' + 1 := ⟨F - 1, by omega⟩
    have e : shD (upd f i (f (i + 1))) (i + 1) m = shD f i m := funext fun j => by
      simp only [upd, shD]
      by_cases h1 : j = i
      · rw [if_neg (by omega), if_pos h1, if_pos (by omega), h1]
      · by_cases h2 : i + 1 ≤ j ∧ j < m
        · rw [if_pos h2, if_neg (by omega), if_pos (by omega)]
        · rw [if_neg h2, if_neg h1, if_neg (by omega)]
    rw [f_Gr_erase_b29_eq, gI_of (ea f) haL rfl, Option.bind_some, if_neg (nI_ge (by omega) (by omega)), gR_of (ea f) haL rfl, Option.bind_some, Option.bind_some, nI_1,
      aI_of (eq f) hqL (by omega) (by omega), Option.bind_some, sI_of (eq f) hqL (by omega) (by omega), Option.bind_some, hU_u, ih F (i + 1) _ (by omega) (by omega), e]
/-- erase(n): it isn't there -/
theorem gr_erase0 {G a q n : Nat} {h : pH} {g : List Nat} (hG : 40 ≤ G) (hg : Gr h a q g) (ha : Asc g) (hs : Sm g) (hn : n < 2 ^ 20) (hm : n ∉ g) : f_Gr_erase G a (nI n) h = some (some (.int 0), h) := by
  obtain ⟨c, hc⟩ := Pl.ex ha n
  have h5 := hg.2.2.2.2.1
  have c1 := hc.1
  have hne : ¬ (if c < g.length then nI (g.getD c 0) else -1) = nI n := by
    intro q
    split at q
    · rename_i h1
      have := hs c h1
      exact hm ((Pl.mem ha hc).mpr ⟨h1, (nI_eq (by omega) (by omega)).mp q⟩)
    · exact nI_ne_m1 (by omega) q
  rw [f_Gr_erase_eq, cI_of hg.is (gr_placeOf (by omega) hg hs hn hc), cI_of hg.is (gr_at hg (by omega)), if_neg hne]
/-- erase(n): it goes -/
theorem gr_erase1 {G a q n : Nat} {h : pH} {g : List Nat} (hG : 40 ≤ G) (hg : Gr h a q g) (ha : Asc g) (hs : Sm g) (hn : n < 2 ^ 20) (hm : n ∈ g) : ∃ h2 : pH, f_Gr_erase G a (nI n) h = some (some (.int 1), h2) ∧ Ch h h2 (fun x => x = a ∨ x = q) ∧ Gr h2 a q (gDel n g) := by
  obtain ⟨c, hc⟩ := Pl.ex ha n
  have c1 := hc.1
  obtain ⟨h1, h2⟩ := (Pl.mem ha hc).mp hm
  have hp := gr_placeOf (G := G) (by omega) hg hs hn hc
  have hat := gr_at (G := G) (k := c) hg (by have := hg.2.2.2.2.1; omega)
  have his := hg.is
  have hcn := hg.cnt
  obtain ⟨r1, r2, r3, r4, r5, f, r6, r7⟩ := hg
  obtain ⟨m, hm9⟩ : ∃ m, g.length = m + 1 := ⟨g.length - 1, by omega⟩
  have e6 : (hU h a (.inr (0, [.ref q, .int (nI m)]))).2 q = .inl (0, 30, .inl f) := (hU_n h _ (Ne.symm r3)).trans r6
  have hlp := del_loop (G := G) (h := hU h a (.inr (0, [.ref q, .int (nI m)]))) (a := a) (q := q) (m := m) r1 r2 r3 (hU_s _ _ _) (by omega) (m - c) G c f (by omega) (by omega)
  rw [hU_id e6] at hlp
  refine ⟨hU (hU h a (.inr (0, [.ref q, .int (nI m)]))) q (.inl (0, 30, .inl (shD f c m))), ?_, (Ch.u (h := h) (a := a) (Or.inl rfl)).tr (Ch.u (Or.inr rfl)), ?_⟩
  rotate_left
  · rw [← delL_eq ha h1 h2]
    refine ⟨r1, r2, r3, ?_, ?_, shD f c m, ?_, fun i hi => ?_⟩
    · rw [hU_n _ _ r3, hU_s, delL_len h1, hm9]; rfl
    · rw [delL_len h1]; omega
    · exact hU_s _ _ _
    · rw [delL_len h1] at hi
      rw [delL_get (by omega)]
      unfold shD
      by_cases h3 : i < c
      · rw [if_neg (by omega), if_pos h3]; exact r7 i (by omega)
      · rw [if_pos (by omega), if_neg h3]; exact r7 (i + 1) (by omega)
  · rw [f_Gr_erase_eq, cI_of his hp, cI_of his hat, if_pos h1, h2, if_pos rfl, hcn, Option.bind_some, oP_of r4 r1 (Nat.le_of_ble_eq_true rfl), Option.bind_some, hm9, nI_pred]
    exact hlp
/-- clear() -/
theorem gr_clear {G a q : Nat} {h : pH} {g : List Nat} (hg : Gr h a q g) : ∃ h2 : pH, f_Gr_clear G a h = some (none, h2) ∧ Ch h h2 (fun x => x = a ∨ x = q) ∧ Gr h2 a q [] := by
  obtain ⟨r1, r2, r3, r4, r5, f, r6, r7⟩ := hg
  refine ⟨_, ?_, Ch.u (a := a) (e := .inr (0, [.ref q, .int (nI 0)])) (Or.inl rfl), r1, r2, r3, hU_s _ _ _, by simp, f, (hU_n _ _ (Ne.symm r3)).trans r6, fun i hi => by simp at hi⟩
  rw [f_Gr_clear_eq, oP_of r4 r1 (Nat.le_of_ble_eq_true rfl), Option.bind_some]
  rfl
def cpR (f fr : Nat → Int32) (i m : Nat) : Nat → Int32 := fun j => if i ≤ j ∧ j < m then fr j else f j
theorem bec_loop {G a q b r m : Nat} {h : pH} {fr : Nat → Int32} (haL : a ∈ h.1) (hqL : q ∈ h.1) (haq : a ≠ q) (hfa : h.2 a = .inr (0, [.ref q, .int (nI m)])) (hm : m ≤ 30) (hbL : b ∈ h.1) (hrL : r ∈ h.1) (hbq : b ≠ q) (hrq : r ≠ q) (hfb : ∃ v : Value, h.2 b = .inr (0, [.ref r, v])) (hfr : h.2 r = .inl (0, 30, .inl fr)) :
    ∀ (d F i : Nat) (f : Nat → Int32), d < F → i + d = m →
      f_Gr_become_b10 G F a b (nI i) (hU h q (.inl (0, 30, .inl f))) = some (none, hU h q (.inl (0, 30, .inl (cpR f fr i m)))) := by
  obtain ⟨v, hfb⟩ := hfb
  have ea : ∀ g' : Nat → Int32, (hU h q (.inl (0, 30, .inl g'))).2 a = .inr (0, [.ref q, .int (nI m)]) := fun g' => (hU_n h _ haq).trans hfa
  have eb : ∀ g' : Nat → Int32, (hU h q (.inl (0, 30, .inl g'))).2 b = .inr (0, [.ref r, v]) := fun g' => (hU_n h _ hbq).trans hfb
  have er : ∀ g' : Nat → Int32, (hU h q (.inl (0, 30, .inl g'))).2 r = .inl (0, 30, .inl fr) := fun g' => (hU_n h _ hrq).trans hfr
  have eq : ∀ g' : Nat → Int32, (hU h q (.inl (0, 30, .inl g'))).2 q = .inl (0, 30, .inl g') := fun g' => hU_s h q _
  intro d
  induction d with
  | zero =>
    intro F i f hF hi
    obtain ⟨F, rfl⟩ : ∃ F', F = F' + 1 := ⟨F - 1, by omega⟩
    have e0 : cpR f fr i m = f := funext fun j => by unfold cpR; rw [if_neg (by omega)]
    rw [f_Gr_become_b10_eq, gI_of (ea f) haL rfl, Option.bind_some, if_pos (nI_le (by omega) (by omega)), e0]
  | succ d ih =>
    intro F i f hF hi
    obtain ⟨F, rfl⟩ : ∃ F', F = F' + 1 := ⟨F - 1, by omega⟩
    have e : cpR (upd f i (fr i)) fr (i + 1) m = cpR f fr i m := funext fun j => by
      simp only [upd, cpR]
      by_cases h1 : j = i
      · rw [if_neg (by omega), if_pos h1, if_pos (by omega), h1]
      · by_cases h2 : i + 1 ≤ j ∧ j < m
        · rw [if_pos h2, if_pos (by omega)]
        · rw [if_neg h2, if_neg h1, if_neg (by omega)]
    rw [f_Gr_become_b10_eq, gI_of (ea f) haL rfl, Option.bind_some, if_neg (nI_ge (by omega) (by omega)), gR_of (ea f) haL rfl, Option.bind_some, gR_of (eb f) hbL rfl, Option.bind_some,
      aI_of (er f) hrL (by omega) (by omega), Option.bind_some, sI_of (eq f) hqL (by omega) (by omega), Option.bind_some, hU_u, nI_1, ih F (i + 1) _ (by omega) (by omega), e]
/-- become(other), another one -/
theorem gr_become {G a q b r : Nat} {h : pH} {g0 g : List Nat} (hG : 40 ≤ G) (hg : Gr h a q g0) (hb : Gr h b r g) (h1 : a ≠ b) (h2 : a ≠ r) (h3 : q ≠ b) (h4 : q ≠ r) : ∃ h2 : pH, f_Gr_become G a b h = some (none, h2) ∧ Ch h h2 (fun x => x = a ∨ x = q) ∧ Gr h2 a q g := by
  have hbc := hb.cnt
  obtain ⟨r1, r2, r3, r4, r5, f, r6, r7⟩ := hg
  obtain ⟨s1, s2, s3, s4, s5, fr, s6, s7⟩ := hb
  have e6 : (hU h a (.inr (0, [.ref q, .int (nI g.length)]))).2 q = .inl (0, 30, .inl f) := (hU_n h _ (Ne.symm r3)).trans r6
  have hlp := bec_loop (G := G) (h := hU h a (.inr (0, [.ref q, .int (nI g.length)]))) (a := a) (q := q) (b := b) (r := r) (fr := fr) (m := g.length) r1 r2 r3 (hU_s _ _ _) s5 s1 s2 (Ne.symm h3) (Ne.symm h4) ⟨_, (hU_n h _ (Ne.symm h1)).trans s4⟩ ((hU_n h _ (Ne.symm h2)).trans s6) g.length G 0 f (by omega) (by omega)
  rw [hU_id e6] at hlp
  refine ⟨hU (hU h a (.inr (0, [.ref q, .int (nI g.length)]))) q (.inl (0, 30, .inl (cpR f fr 0 g.length))), ?_, (Ch.u (h := h) (a := a) (Or.inl rfl)).tr (Ch.u (Or.inr rfl)), r1, r2, r3, (hU_n _ _ r3).trans (hU_s _ _ _), s5, cpR f fr 0 g.length, hU_s _ _ _, fun i hi => ?_⟩
  · rw [f_Gr_become_eq, hbc, Option.bind_some, oP_of r4 r1 (Nat.le_of_ble_eq_true rfl), Option.bind_some]
    exact hlp
  · unfold cpR
    rw [if_pos (by omega)]
    exact s7 i hi
