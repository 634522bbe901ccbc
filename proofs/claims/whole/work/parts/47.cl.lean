section CLF
variable {G : Nat} {h : pH} {B : Nat → Nat} {gs : Nat → List Nat} {cc : Int32} {cl bst : Nat → Int32}
/-- checkFact(graph, k) -/
theorem mg_checkFact_no {a q : Nat} {g : List Nat} {k : Int32} (hg : Gr h a q g) (hk : ¬ okK g k) : f_Mg_checkFact G a k h = some (.inl 1, h) := by
  rw [f_Mg_checkFact_eq]
  by_cases h1 : k < 0
  · rw [if_pos h1]; rfl
  · rw [if_neg h1, cI_of hg.is (gr_count hg), if_neg]
    · rfl
    · intro h2
      rw [i_lt0] at h1
      rw [i_lt (nI_toInt (by have := hg.2.2.2.2.1; omega))] at h2
      unfold okK at hk
      omega
theorem mg_checkFact {a q k : Nat} {g : List Nat} (hg : Gr h a q g) (hk : k < g.length) : f_Mg_checkFact G a (nI k) h = some (.inr none, h) := by
  have h5 := hg.2.2.2.2.1
  rw [f_Mg_checkFact_eq, if_neg (nI_pos (by omega)), cI_of hg.is (gr_count hg), if_pos (nI_lt hk (by omega))]
/-- fact -/
theorem mg_fact_no1 {g k : Int32} (hr : RC h B gs cc cl bst) (hg : ¬ okG g) : f_Mg_fact G (B 43) g k h = some (.inl 1, h) := by
  rw [f_Mg_fact_eq, tR_th hr.is (mg_graphAt_no hg)]
theorem mg_fact_no2 {g : Nat} {k : Int32} (hr : RC h B gs cc cl bst) (hg : g < 6) (hk : ¬ okK (gs g) k) : f_Mg_fact G (B 43) (nI g) k h = some (.inl 1, h) := by
  rw [f_Mg_fact_eq, tR_of hr.is (mg_graphAt hr hg), tV_th rfl (mg_checkFact_no (hr.2.1 g (by omega)) hk)]
theorem mg_fact {g k : Nat} (hr : RC h B gs cc cl bst) (hg : g < 6) (hk : k < (gs g).length) : f_Mg_fact G (B 43) (nI g) (nI k) h = some (.inr (some (.int (nI ((gs g).getD k 0)))), h) := by
  have hgr := hr.2.1 g (by omega)
  have h5 := hgr.2.2.2.2.1
  rw [f_Mg_fact_eq, tR_of hr.is (mg_graphAt hr hg), tV_of rfl (mg_checkFact hgr hk), cI_of hgr.is (gr_at hgr (by omega)), if_pos hk]
/-- copy -/
theorem mg_copy_no1 {a b : Int32} (hr : RC h B gs cc cl bst) (ha : ¬ okG a) : f_Mg_copy G (B 43) a b h = some (.inl 1, h) := by
  rw [f_Mg_copy_eq, tR_th hr.is (mg_graphAt_no ha)]
theorem mg_copy_no2 {a : Nat} {b : Int32} (hr : RC h B gs cc cl bst) (ha : a < 6) (hb : ¬ okG b) : f_Mg_copy G (B 43) (nI a) b h = some (.inl 1, h) := by
  rw [f_Mg_copy_eq, tR_of hr.is (mg_graphAt hr ha), tR_th hr.is (mg_graphAt_no hb)]
/-- become(itself) -/
theorem gr_become_self {a q : Nat} {g : List Nat} (hG : 100 ≤ G) (hg : Gr h a q g) : f_Gr_become G a a h = some (none, h) := by
  have hcn := hg.cnt
  obtain ⟨r1, r2, r3, r4, r5, f, r6, r7⟩ := id hg
  have lp : ∀ (d F i : Nat), d < F → i + d = g.length → f_Gr_become_b10 G F a a (nI i) h = some (none, h) := by
    intro d
    induction d with
    | zero =>
      intro F i hF hi
      obtain ⟨F, rfl⟩ : ∃ F', F = F' + 1 := ⟨F - 1, by omega⟩
      rw [f_Gr_become_b10_eq, hcn, Option.bind_some, if_pos (nI_le (by omega) (by omega))]
    | succ d ih =>
      intro F i hF hi
      obtain ⟨F, rfl⟩ : ∃ F', F = F' + 1 := ⟨F - 1, by omega⟩
      have e : upd f i (f i) = f := funext fun j => by simp only [upd]; split <;> simp_all
      rw [f_Gr_become_b10_eq, hcn, Option.bind_some, if_neg (nI_ge (by omega) (by omega)), hg.row, Option.bind_some, Option.bind_some, aI_of r6 r2 (by omega) (by omega), Option.bind_some, sI_of r6 r2 (by omega) (by omega), Option.bind_some, e, hU_id r6, nI_1, ih F (i + 1) (by omega) (by omega)]
  rw [f_Gr_become_eq, hcn, Option.bind_some, oP_of r4 r1 (Nat.le_of_ble_eq_true rfl), Option.bind_some]
  have e2 : hU h a (.inr (0, List.set [.ref q, .int (nI g.length)] 1 (.int (nI g.length)))) = h := hU_id r4
  rw [e2]
  exact lp g.length G 0 (by omega) (by omega)
theorem mg_copy {a b : Nat} (hG : 100 ≤ G) (hr : RC h B gs cc cl bst) (ha : a < 6) (hb : b < 6) :
    ∃ h2 : pH, f_Mg_copy G (B 43) (nI a) (nI b) h = some (.inr (some (.int (nI (gs a).length))), h2) ∧ Ch h h2 (inB B) ∧ RC h2 B (upG gs b (gs a)) cc cl bst := by
  have hga := hr.2.1 a (by omega)
  have hgb := hr.2.1 b (by omega)
  by_cases e : a = b
  · subst e
    refine ⟨h, ?_, Ch.rf, by rw [upG_id]; exact hr⟩
    rw [f_Mg_copy_eq, tR_of hr.is (mg_graphAt hr ha), tR_of hr.is (mg_graphAt hr ha), cV_of hga.is (gr_become_self hG hga), cI_of hga.is (gr_count hga)]
  · obtain ⟨h2, a1, a2, a3⟩ := gr_become (G := G) (by omega) hgb hga (hr.1.ne (by omega) (by omega) (Ne.symm e)) (hr.1.ne (by omega) (by omega) (by omega)) (hr.1.ne (by omega) (by omega) (by omega)) (hr.1.ne (by omega) (by omega) (by omega))
    refine ⟨h2, ?_, a2.mono (inB_g (by omega)), hr.set (by omega) a2 a3⟩
    rw [f_Mg_copy_eq, tR_of hr.is (mg_graphAt hr ha), tR_of hr.is (mg_graphAt hr hb), cV_of hgb.is a1, cI_of a3.is (gr_count a3)]
end CLF
