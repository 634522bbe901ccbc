section MO8
variable {h : pH} {m : Nat} {A : Nat → Nat} {S : Nat → Int32} {R : Nat → Nat → Int32} {gs : Nat → List Nat}
theorem mo_there0 {G : Nat} (ha : moA h m A) : f_Mo_there G m 0 (moH h m A S R) = some (some (.int 0), moH h m A (upd S 0 1) R) := mo_there ha false
theorem mo_there1 {G : Nat} (ha : moA h m A) : f_Mo_there G m 1 (moH h m A S R) = some (some (.int 1), moH h m A (upd S 0 0) R) := mo_there ha true
/-- fact(g, k) -/
def okK (g : List Nat) (k : Int32) : Prop := 0 ≤ k.toInt ∧ k.toInt < g.length
theorem mo_fact27 {G : Nat} {x1 x2 : Int32} (ha : moA h m A) : f_Mo_fact_b26 G (f_Mo_fact_b27 G) m x1 x2 m (moH h m A S R) = some (some (.int 0), moH h m A (upd S 0 1) R) := by
  rw [f_Mo_fact_b26_eq, f_Mo_fact_b27_eq, cI_of (mo_is ha) (mo_there0 ha), if_pos rfl]
  rfl
theorem mo_fact_no1 {G : Nat} {x1 x2 : Int32} (ha : moA h m A) (hg : ¬ okG x1) : f_Mo_fact G m x1 x2 (moH h m A S R) = some (some (.int 0), moH h m A (upd S 0 1) R) := by
  rw [f_Mo_fact_eq, cI_of rfl mo_isGraph, if_pos (by rw [if_neg hg]), mo_fact27 ha]
theorem mo_fact_no2 {G g : Nat} {x2 : Int32} (ha : moA h m A) (hR : moG R gs) (hg : g < 6) (hk : ¬ okK (gs g) x2) : f_Mo_fact G m (nI g) x2 (moH h m A S R) = some (some (.int 0), moH h m A (upd S 0 1) R) := by
  obtain ⟨q1, q2, q3⟩ := hR g hg
  have ho : 0 ≤ (nI g).toInt ∧ (nI g).toInt < 6 := by rw [nI_toInt (by omega)]; omega
  rw [f_Mo_fact_eq, cI_of rfl mo_isGraph, if_neg (by rw [if_pos ho]; decide)]
  by_cases h1 : x2 < 0
  · rw [if_pos h1, mo_fact27 ha]
  · rw [if_neg h1, mo_g2 ha, Option.bind_some, mo_a2 ha hg, Option.bind_some, q1]
    rw [i_lt0] at h1
    rw [if_pos, mo_fact27 ha]
    rw [Int32.le_iff_toInt_le, nI_toInt (by omega)]
    unfold okK at hk
    omega
theorem mo_fact {G g k : Nat} (ha : moA h m A) (hR : moG R gs) (hg : g < 6) (hk : k < (gs g).length) : f_Mo_fact G m (nI g) (nI k) (moH h m A S R) = some (some (.int (nI ((gs g).getD k 0))), moH h m A (upd S 0 0) R) := by
  obtain ⟨q1, q2, q3⟩ := hR g hg
  have ho : 0 ≤ (nI g).toInt ∧ (nI g).toInt < 6 := by rw [nI_toInt (by omega)]; omega
  rw [f_Mo_fact_eq, cI_of rfl mo_isGraph, if_neg (by rw [if_pos ho]; decide), if_neg (nI_pos (by omega)), mo_g2 ha, Option.bind_some, mo_a2 ha hg, Option.bind_some, q1, if_neg (nI_ge hk (by omega)), f_Mo_fact_b27_eq, cI_of (mo_is ha) (mo_there1 ha), if_neg (by decide), cI_of (mo_is ha) (mo_numberOf ha hg (by omega)), q3 k hk]
  rfl
end MO8
