/-- a graph's number; a fact's three terms -/
abbrev okG (x : Int32) : Prop := 0 ≤ x.toInt ∧ x.toInt < 6
abbrev okF (s v o : Int32) : Prop := (0 ≤ s.toInt ∧ s.toInt < 46) ∧ (0 ≤ v.toInt ∧ v.toInt < 40) ∧ (0 ≤ o.toInt ∧ o.toInt < 46)
def wr (g s v o : Int32) : Int32 := if okG g then (if okF s v o then 0 else 2) else 1
theorem i_lt0 {x : Int32} : x < 0 ↔ x.toInt < 0 := by rw [Int32.lt_iff_toInt_lt, Int32.toInt_zero]
theorem i_ge {x y : Int32} {n : Int} (hy : y.toInt = n) : y ≤ x ↔ n ≤ x.toInt := by rw [Int32.le_iff_toInt_le, hy]
theorem i_lt {x y : Int32} {n : Int} (hy : y.toInt = n) : x < y ↔ x.toInt < n := by rw [Int32.lt_iff_toInt_lt, hy]
theorem okG_nI {x : Int32} (hx : okG x) : ∃ g : Nat, g < 6 ∧ x = nI g := by
  obtain ⟨j, h1, h2⟩ := nI_of (x := x) (by rw [i_lt0]; have := hx.1; omega)
  have := hx.2
  rw [h2, nI_toInt h1] at this
  exact ⟨j, by omega, h2⟩
theorem ok_nI {x : Int32} {n : Nat} (h0 : 0 ≤ x.toInt) (h1 : x.toInt < n) : ∃ j : Nat, j < n ∧ x = nI j := by
  obtain ⟨j, h2, h3⟩ := nI_of (x := x) (by rw [i_lt0]; omega)
  rw [h3, nI_toInt h2] at h1
  exact ⟨j, by omega, h3⟩
section MO5
variable {h : pH} {m : Nat} {A : Nat → Nat}
theorem mo_wrong37 {G : Nat} {g s0 : Int32} {H : pH} : f_Mo_wrong_b37 G g s0 H = some (some (.int (if okG g then (if s0 = 0 then 2 else 0) else 1)), H) := by
  rw [f_Mo_wrong_b37_eq, cI_of rfl mo_isGraph]
  by_cases hg : okG g
  · rw [if_pos (show 0 ≤ g.toInt ∧ g.toInt < 6 from hg), if_neg (by decide), if_pos hg]
    by_cases h0 : s0 = 0
    · rw [if_pos h0, if_pos h0]; rfl
    · rw [if_neg h0, if_neg h0]; rfl
  · rw [if_neg (show ¬ (0 ≤ g.toInt ∧ g.toInt < 6) from hg), if_pos rfl, if_neg hg]; rfl
theorem mo_wrong {G : Nat} {g s v o : Int32} {H : pH} : f_Mo_wrong G m g s v o H = some (some (.int (wr g s v o)), H) := by
  have e46 : (46 : Int32).toInt = 46 := by decide
  have e40 : (40 : Int32).toInt = 40 := by decide
  have bad : ¬ okF s v o → f_Mo_wrong_b36 G (f_Mo_wrong_b37 G) g H = some (some (.int (wr g s v o)), H) := fun hb => by
    rw [f_Mo_wrong_b36_eq, mo_wrong37, if_pos rfl]
    unfold wr
    rw [if_neg hb]
  rw [f_Mo_wrong_eq]
  by_cases h1 : s < 0
  · rw [if_pos h1]; exact bad (fun q => by have := q.1.1; rw [i_lt0] at h1; omega)
  · rw [if_neg h1]
    by_cases h2 : (46 : Int32) ≤ s
    · rw [if_pos h2]; exact bad (fun q => by have := q.1.2; rw [i_ge e46] at h2; omega)
    · rw [if_neg h2]
      by_cases h3 : v < 0
      · rw [if_pos h3]; exact bad (fun q => by have := q.2.1.1; rw [i_lt0] at h3; omega)
      · rw [if_neg h3]
        by_cases h4 : (40 : Int32) ≤ v
        · rw [if_pos h4]; exact bad (fun q => by have := q.2.1.2; rw [i_ge e40] at h4; omega)
        · rw [if_neg h4]
          by_cases h5 : o < 0
          · rw [if_pos h5]; exact bad (fun q => by have := q.2.2.1; rw [i_lt0] at h5; omega)
          · rw [if_neg h5]
            by_cases h6 : (46 : Int32) ≤ o
            · rw [if_pos h6]; exact bad (fun q => by have := q.2.2.2; rw [i_ge e46] at h6; omega)
            · rw [if_neg h6, mo_wrong37, if_neg (show ¬ (1 : Int32) = 0 by decide)]
              rw [i_lt0] at h1 h3 h5
              rw [i_ge e46] at h2 h6
              rw [i_ge e40] at h4
              have hk : okF s v o := ⟨⟨by omega, by omega⟩, ⟨by omega, by omega⟩, ⟨by omega, by omega⟩⟩
              unfold wr
              rw [if_pos hk]
/-- numbered(s, v, o) -/
theorem mo_numbered {G s v o : Nat} {H : pH} : f_Mo_numbered G (nI s) (nI v) (nI o) H = some (some (.int (nI (4096 * s + 64 * v + o))), H) := by
  rw [f_Mo_numbered_eq, show (4096 : Int32) = nI 4096 from rfl, show (64 : Int32) = nI 64 from rfl, pk_mul, pk_mul, nI_add, nI_add]
end MO5
