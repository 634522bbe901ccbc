/-- the reference's six graphs -/
def moG (R : Nat → Nat → Int32) (gs : Nat → List Nat) : Prop := ∀ g : Nat, g < 6 → R 2 g = nI (gs g).length ∧ (gs g).length ≤ 30 ∧ ∀ k : Nat, k < (gs g).length → R 1 (30 * g + k) = nI ((gs g).getD k 0)
section MO2
variable {h : pH} {m : Nat} {A : Nat → Nat} {S : Nat → Int32} {R : Nat → Nat → Int32} {gs : Nat → List Nat}
theorem mo_thrown {G : Nat} (ha : moA h m A) : f_Mo_thrown G m (moH h m A S R) = some (some (.int (S 0)), moH h m A S R) := by
  rw [f_Mo_thrown_eq, mo_g0 ha, Option.bind_some]
theorem mo_numberOf {G g k : Nat} (ha : moA h m A) (hg : g < 6) (hk : k < 30) : f_Mo_numberOf G m (nI g) (nI k) (moH h m A S R) = some (some (.int (R 1 (30 * g + k))), moH h m A S R) := by
  have e : (30 : Int32) * nI g + nI k = nI (30 * g + k) := by
    rw [show (30 : Int32) = nI 30 from rfl, pk_mul, nI_add]
  rw [f_Mo_numberOf_eq, mo_g1 ha, Option.bind_some, e, mo_a1 ha (by omega), Option.bind_some]
/-- isGraph(g) -/
theorem mo_isGraph {G : Nat} {x : Int32} {H : pH} : f_Mo_isGraph G x H = some (some (.int (if 0 ≤ x.toInt ∧ x.toInt < 6 then 1 else 0)), H) := by
  have e6 : (6 : Int32).toInt = 6 := by decide
  rw [f_Mo_isGraph_eq]
  by_cases h1 : x < 0
  · rw [if_pos h1, if_neg (by rw [Int32.lt_iff_toInt_lt, Int32.toInt_zero] at h1; omega)]
    rfl
  · rw [if_neg h1]
    rw [Int32.lt_iff_toInt_lt, Int32.toInt_zero] at h1
    by_cases h2 : (6 : Int32) ≤ x
    · rw [if_pos h2, if_neg (by rw [Int32.le_iff_toInt_le, e6] at h2; omega)]
      rfl
    · rw [if_neg h2, if_pos (by rw [Int32.le_iff_toInt_le, e6] at h2; omega)]
      rfl
/-- there(is): the code, and is again -/
theorem mo_there {G : Nat} (ha : moA h m A) (is : Bool) : f_Mo_there G m (if is then 1 else 0) (moH h m A S R) = some (some (.int (if is then 1 else 0)), moH h m A (upd S 0 (if is then 0 else 1)) R) := by
  cases is
  · show f_Mo_there G m 0 _ = _
    rw [f_Mo_there_eq, if_pos rfl, f_Mo_there_b10_eq, mo_p0 ha, Option.bind_some]
    rfl
  · show f_Mo_there G m 1 _ = _
    rw [f_Mo_there_eq, if_neg (by decide), f_Mo_there_b10_eq, mo_p0 ha, Option.bind_some]
    rfl
/-- has(g, n): its loop -/
theorem mo_has_loop {G g n : Nat} (ha : moA h m A) (hR : moG R gs) (hg : g < 6) (hs : Sm (gs g)) (hn : n < 2 ^ 20) :
    ∀ (d F k : Nat) (b : Bool), d < F → k + d = (gs g).length → (b = true ↔ ∃ j, j < k ∧ (gs g).getD j 0 = n) →
      f_Mo_has_b5 G F m (nI g) (nI n) (if b then 1 else 0) (nI k) (moH h m A S R) = some (some (.int (if n ∈ gs g then 1 else 0)), moH h m A S R) := by
  obtain ⟨q1, q2, q3⟩ := hR g hg
  intro d
  induction d with
  | zero =>
    intro F k b hF hk hb
    obtain ⟨F, rfl⟩ : ∃ F', F = F' + 1 := ⟨F - 1, by omega⟩
    rw [f_Mo_has_b5_eq, mo_g2 ha, Option.bind_some, mo_a2 ha hg, Option.bind_some, q1, if_pos (nI_le (by omega) (by omega))]
    have hm : n ∈ gs g ↔ b = true := by
      rw [hb, mem_getD]
      constructor
      · rintro ⟨i, h1, h2⟩; exact ⟨i, by omega, h2⟩
      · rintro ⟨i, h1, h2⟩; exact ⟨i, by omega, h2⟩
    cases b
    · have hnm : ¬ n ∈ gs g := fun q => by have := hm.mp q; cases this
      rw [if_neg hnm]; rfl
    · rw [if_pos (hm.mpr rfl)]; rfl
  | succ d ih =>
    intro F k b hF hk hb
    obtain ⟨F, rfl⟩ : ∃ F', F = F' + 1 := ⟨F - 1, by omega⟩
    have hsm := hs k (by omega)
    rw [f_Mo_has_b5_eq, mo_g2 ha, Option.bind_some, mo_a2 ha hg, Option.bind_some, q1, if_neg (nI_ge (by omega) (by omega))]
    cases b
    · rw [if_pos (show (if false = true then (1 : Int32) else 0) = 0 from rfl), cI_of (mo_is ha) (mo_numberOf ha hg (by omega)), q3 k (by omega)]
      by_cases he : (gs g).getD k 0 = n
      · rw [he, if_pos rfl, f_Mo_has_b31_eq, f_Mo_has_b36_eq, nI_1]
        exact ih F (k + 1) true (by omega) (by omega) ⟨fun _ => ⟨k, by omega, he⟩, fun _ => rfl⟩
      · rw [if_neg (fun q => he ((nI_eq (by omega) (by omega)).mp q)), f_Mo_has_b36_eq, nI_1]
        refine ih F (k + 1) false (by omega) (by omega) ⟨fun q => (by cases q), fun ⟨j, h1, h2⟩ => ?_⟩
        rcases Nat.lt_or_ge j k with h3 | h3
        · exact hb.mpr ⟨j, h3, h2⟩
        · exact absurd (show (gs g).getD k 0 = n by rw [show k = j by omega]; exact h2) he
    · rw [if_neg (show ¬ (if true = true then (1 : Int32) else 0) = 0 by decide), f_Mo_has_b31_eq, f_Mo_has_b36_eq, nI_1]
      obtain ⟨j, h1, h2⟩ := hb.mp rfl
      exact ih F (k + 1) true (by omega) (by omega) ⟨fun _ => ⟨j, by omega, h2⟩, fun _ => rfl⟩
theorem mo_has {G g n : Nat} (hG : 40 ≤ G) (ha : moA h m A) (hR : moG R gs) (hg : g < 6) (hs : Sm (gs g)) (hn : n < 2 ^ 20) : f_Mo_has G m (nI g) (nI n) (moH h m A S R) = some (some (.int (if n ∈ gs g then 1 else 0)), moH h m A S R) := by
  rw [f_Mo_has_eq]
  exact mo_has_loop ha hR hg hs hn (gs g).length G 0 false (by have := (hR g hg).2.1; omega) (by omega) ⟨fun q => (by cases q), fun ⟨j, h1, _⟩ => by omega⟩
end MO2
