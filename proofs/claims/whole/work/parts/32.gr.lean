/-- a number put in at c; taken out at c -/
def insL (g : List Nat) (c n : Nat) : List Nat := g.take c ++ n :: g.drop c
def delL (g : List Nat) (c : Nat) : List Nat := g.take c ++ g.drop (c + 1)
theorem insL_len {g : List Nat} {c n : Nat} (hc : c ≤ g.length) : (insL g c n).length = g.length + 1 := by
  simp [insL, List.length_take, List.length_drop]; omega
theorem delL_len {g : List Nat} {c : Nat} (hc : c < g.length) : (delL g c).length = g.length - 1 := by
  simp [delL, List.length_take, List.length_drop]; omega
theorem insL_get {g : List Nat} {c n i : Nat} (hc : c ≤ g.length) : (insL g c n).getD i 0 = if i < c then g.getD i 0 else if i = c then n else g.getD (i - 1) 0 := by
  unfold insL
  rw [List.getD_eq_getElem?_getD, List.getD_eq_getElem?_getD, List.getD_eq_getElem?_getD]
  have ht : (g.take c).length = c := by rw [List.length_take]; omega
  by_cases h1 : i < c
  · rw [if_pos h1, List.getElem?_append_left (by omega), List.getElem?_take_of_lt h1]
  · rw [if_neg h1, List.getElem?_append_right (by omega), ht]
    by_cases h2 : i = c
    · subst h2; simp
    · rw [if_neg h2]
      obtain ⟨j, hj⟩ : ∃ j, i - c = j + 1 := ⟨i - c - 1, by omega⟩
      rw [hj, List.getElem?_cons_succ, List.getElem?_drop, show c + j = i - 1 by omega]
theorem delL_get {g : List Nat} {c i : Nat} (hc : c ≤ g.length) : (delL g c).getD i 0 = if i < c then g.getD i 0 else g.getD (i + 1) 0 := by
  unfold delL
  rw [List.getD_eq_getElem?_getD, List.getD_eq_getElem?_getD, List.getD_eq_getElem?_getD]
  have ht : (g.take c).length = c := by rw [List.length_take]; omega
  by_cases h1 : i < c
  · rw [if_pos h1, List.getElem?_append_left (by omega), List.getElem?_take_of_lt h1]
  · rw [if_neg h1, List.getElem?_append_right (by omega), ht, List.getElem?_drop, show c + 1 + (i - c) = i + 1 by omega]
theorem insL_mem {g : List Nat} {c n m : Nat} : m ∈ insL g c n ↔ m ∈ g ∨ m = n := by
  have e : m ∈ g ↔ m ∈ g.take c ∨ m ∈ g.drop c := by
    rw [← List.mem_append, List.take_append_drop]
  unfold insL
  rw [List.mem_append, List.mem_cons, e]
  constructor
  · rintro (h | h | h)
    · exact Or.inl (Or.inl h)
    · exact Or.inr h
    · exact Or.inl (Or.inr h)
  · rintro ((h | h) | h)
    · exact Or.inl h
    · exact Or.inr (Or.inr h)
    · exact Or.inr (Or.inl h)
theorem mem_getD {g : List Nat} {m : Nat} : m ∈ g ↔ ∃ i, i < g.length ∧ g.getD i 0 = m := by
  constructor
  · intro h
    obtain ⟨i, hi, hv⟩ := List.getElem_of_mem h
    exact ⟨i, hi, by rw [List.getD_eq_getElem?_getD, List.getElem?_eq_getElem hi]; exact hv⟩
  · rintro ⟨i, hi, hv⟩
    rw [List.getD_eq_getElem?_getD, List.getElem?_eq_getElem hi] at hv
    exact hv ▸ List.getElem_mem hi
theorem delL_mem {g : List Nat} {c m : Nat} (ha : Asc g) (hc : c < g.length) : m ∈ delL g c ↔ m ∈ g ∧ m ≠ g.getD c 0 := by
  rw [mem_getD, mem_getD, delL_len hc]
  constructor
  · rintro ⟨i, hi, hv⟩
    rw [delL_get (by omega)] at hv
    split at hv
    · rename_i h1
      exact ⟨⟨i, by omega, hv⟩, fun q => by have := ha i c h1 hc; omega⟩
    · rename_i h1
      exact ⟨⟨i + 1, by omega, hv⟩, fun q => by have := ha c (i + 1) (by omega) (by omega); omega⟩
  · rintro ⟨⟨i, hi, hv⟩, hne⟩
    rcases Nat.lt_or_ge i c with h1 | h1
    · exact ⟨i, by omega, by rw [delL_get (by omega), if_pos h1]; exact hv⟩
    · have h2 : i ≠ c := fun q => hne (by rw [← q]; exact hv.symm)
      exact ⟨i - 1, by omega, by rw [delL_get (by omega), if_neg (by omega), show i - 1 + 1 = i by omega]; exact hv⟩
theorem insL_asc {g : List Nat} {c n : Nat} (ha : Asc g) (hc : Pl g n c) (hn : n ∉ g) : Asc (insL g c n) := by
  obtain ⟨c1, c2, c3⟩ := hc
  have hne : ∀ i, i < g.length → g.getD i 0 ≠ n := fun i hi q => hn (mem_getD.mpr ⟨i, hi, q⟩)
  intro i j hij hj
  rw [insL_len c1] at hj
  rw [insL_get c1, insL_get c1]
  by_cases i1 : i < c
  · rw [if_pos i1]
    by_cases j1 : j < c
    · rw [if_pos j1]; exact ha i j hij (by omega)
    · rw [if_neg j1]
      by_cases j2 : j = c
      · rw [if_pos j2]; exact c2 i i1
      · rw [if_neg j2]; exact ha i (j - 1) (by omega) (by omega)
  · rw [if_neg i1, if_neg (show ¬ j < c by omega), if_neg (show ¬ j = c by omega)]
    by_cases i2 : i = c
    · rw [if_pos i2]
      have h1 := c3 (j - 1) (by omega) (by omega)
      have h2 := hne (j - 1) (by omega)
      omega
    · rw [if_neg i2]; exact ha (i - 1) (j - 1) (by omega) (by omega)
theorem delL_asc {g : List Nat} {c : Nat} (ha : Asc g) (hc : c < g.length) : Asc (delL g c) := by
  intro i j hij hj
  rw [delL_len hc] at hj
  rw [delL_get (by omega), delL_get (by omega)]
  by_cases i1 : i < c
  · rw [if_pos i1]
    by_cases j1 : j < c
    · rw [if_pos j1]; exact ha i j hij (by omega)
    · rw [if_neg j1]; exact ha i (j + 1) (by omega) (by omega)
  · rw [if_neg i1, if_neg (show ¬ j < c by omega)]; exact ha (i + 1) (j + 1) (by omega) (by omega)
theorem Sm_mem {g : List Nat} : Sm g ↔ ∀ m ∈ g, m < 2 ^ 20 := by
  constructor
  · intro h m hm
    obtain ⟨i, hi, hv⟩ := mem_getD.mp hm
    exact hv ▸ h i hi
  · intro h i hi
    exact h _ (mem_getD.mpr ⟨i, hi, rfl⟩)
/-- two ascending lists with the same members are one -/
theorem asc_ext : ∀ {g1 g2 : List Nat}, Asc g1 → Asc g2 → (∀ m, m ∈ g1 ↔ m ∈ g2) → g1 = g2 := by
  intro g1
  induction g1 with
  | nil =>
    intro g2 _ _ h
    cases g2 with
    | nil => rfl
    | cons b l => exact absurd ((h b).mpr List.mem_cons_self) List.not_mem_nil
  | cons a l ih =>
    intro g2 h1 h2 h
    have tl : ∀ {x : Nat} {r : List Nat}, Asc (x :: r) → Asc r ∧ ∀ m ∈ r, x < m := by
      intro x r hx
      refine ⟨fun i j hij hj => ?_, fun m hm => ?_⟩
      · have := hx (i + 1) (j + 1) (by omega) (by simp; omega)
        simpa using this
      · obtain ⟨i, hi, hv⟩ := mem_getD.mp hm
        have := hx 0 (i + 1) (by omega) (by simp; omega)
        simpa [← hv] using this
    cases g2 with
    | nil => exact absurd ((h a).mp List.mem_cons_self) List.not_mem_nil
    | cons b r =>
      obtain ⟨a1, a2⟩ := tl h1
      obtain ⟨b1, b2⟩ := tl h2
      have hab : a = b := by
        rcases List.mem_cons.mp ((h a).mp List.mem_cons_self) with q | q
        · exact q
        · rcases List.mem_cons.mp ((h b).mpr List.mem_cons_self) with q2 | q2
          · exact q2.symm
          · have := b2 a q
            have := a2 b q2
            omega
      subst hab
      rw [ih a1 b1 (fun m => ?_)]
      constructor
      · intro hm
        rcases List.mem_cons.mp ((h m).mp (List.mem_cons_of_mem _ hm)) with q | q
        · have := a2 m hm; omega
        · exact q
      · intro hm
        rcases List.mem_cons.mp ((h m).mpr (List.mem_cons_of_mem _ hm)) with q | q
        · have := b2 m hm; omega
        · exact q
