/-- a cell of the class's -/
def inB (B : Nat → Nat) : Nat → Prop := fun x => ∃ i : Nat, i < 44 ∧ x = B i
theorem inB_g {B : Nat → Nat} {i : Nat} (hi : i < 11) : ∀ x, (x = B i ∨ x = B (11 + i)) → inB B x := by
  rintro x (q | q)
  · exact ⟨i, by omega, q⟩
  · exact ⟨11 + i, by omega, q⟩
section CLP
variable {G : Nat} {h : pH} {B : Nat → Nat} {gs : Nat → List Nat} {cc : Int32} {cl bst : Nat → Int32}
/-- insert, whatever comes -/
theorem gr_insert {a q n : Nat} {g : List Nat} (hG : 100 ≤ G) (hg : Gr h a q g) (ha : Asc g) (hs : Sm g) (hn : n < 2 ^ 20) : ∃ h2 : pH, f_Gr_insert G a (nI n) h = some (some (.int (putR g n)), h2) ∧ Ch h h2 (fun x => x = a ∨ x = q) ∧ Gr h2 a q (putG g n) := by
  unfold putR putG
  by_cases hm : n ∈ g
  · rw [if_pos hm, if_pos hm]
    exact ⟨h, gr_insert0 (by omega) hg ha hs hn hm, Ch.rf, hg⟩
  · rw [if_neg hm, if_neg hm]
    by_cases hl : g.length = 30
    · rw [if_pos hl, if_pos hl]
      exact ⟨h, gr_insertF (by omega) hg ha hs hn hm hl, Ch.rf, hg⟩
    · rw [if_neg hl, if_neg hl]
      exact gr_insert1 (by omega) hg ha hs hn hm (by have := hg.2.2.2.2.1; omega)
def dropR (g : List Nat) (n : Nat) : Int32 := if n ∈ g then 1 else 0
theorem gr_erase {a q n : Nat} {g : List Nat} (hG : 100 ≤ G) (hg : Gr h a q g) (ha : Asc g) (hs : Sm g) (hn : n < 2 ^ 20) : ∃ h2 : pH, f_Gr_erase G a (nI n) h = some (some (.int (dropR g n)), h2) ∧ Ch h h2 (fun x => x = a ∨ x = q) ∧ Gr h2 a q (gDel n g) := by
  unfold dropR
  by_cases hm : n ∈ g
  · rw [if_pos hm]
    exact gr_erase1 (by omega) hg ha hs hn hm
  · rw [if_neg hm, gDel_id ha hm]
    exact ⟨h, gr_erase0 (by omega) hg ha hs hn hm, Ch.rf, hg⟩
/-- put -/
theorem mg_put_no1 {g s v o : Int32} (hr : RC h B gs cc cl bst) (hg : ¬ okG g) : f_Mg_put G (B 43) g s v o h = some (.inl 1, h) := by
  rw [f_Mg_put_eq, tR_th hr.is (mg_graphAt_no hg)]
theorem mg_put_no2 {g : Nat} {s v o : Int32} (hr : RC h B gs cc cl bst) (hg : g < 6) (hf : ¬ okF s v o) : f_Mg_put G (B 43) (nI g) s v o h = some (.inl 2, h) := by
  rw [f_Mg_put_eq, tR_of hr.is (mg_graphAt hr hg), tI_th rfl (mg_checked_no hf)]
theorem mg_put {g s v o : Nat} (hG : 100 ≤ G) (hr : RC h B gs cc cl bst) (hg : g < 6) (hA : Asc (gs g)) (hs : Sm (gs g)) (h1 : s < 46) (h2 : v < 40) (h3 : o < 46) :
    ∃ h2 : pH, f_Mg_put G (B 43) (nI g) (nI s) (nI v) (nI o) h = some (.inr (some (.int (putR (gs g) (4096 * s + 64 * v + o)))), h2) ∧ Ch h h2 (inB B) ∧ RC h2 B (upG gs g (putG (gs g) (4096 * s + 64 * v + o))) cc cl bst := by
  have hgr := hr.2.1 g (by omega)
  obtain ⟨h2, a1, a2, a3⟩ := gr_insert (G := G) (n := 4096 * s + 64 * v + o) hG hgr hA hs (by omega)
  refine ⟨h2, ?_, a2.mono (inB_g (by omega)), hr.set (by omega) a2 a3⟩
  rw [f_Mg_put_eq, tR_of hr.is (mg_graphAt hr hg), tI_of rfl (mg_checked h1 (by omega) h3), cI_of hgr.is a1]
/-- drop -/
theorem mg_drop_no1 {g s v o : Int32} (hr : RC h B gs cc cl bst) (hg : ¬ okG g) : f_Mg_drop G (B 43) g s v o h = some (.inl 1, h) := by
  rw [f_Mg_drop_eq, tR_th hr.is (mg_graphAt_no hg)]
theorem mg_drop_no2 {g : Nat} {s v o : Int32} (hr : RC h B gs cc cl bst) (hg : g < 6) (hf : ¬ okF s v o) : f_Mg_drop G (B 43) (nI g) s v o h = some (.inl 2, h) := by
  rw [f_Mg_drop_eq, tR_of hr.is (mg_graphAt hr hg), tI_th rfl (mg_checked_no hf)]
theorem mg_drop {g s v o : Nat} (hG : 100 ≤ G) (hr : RC h B gs cc cl bst) (hg : g < 6) (hA : Asc (gs g)) (hs : Sm (gs g)) (h1 : s < 46) (h2 : v < 40) (h3 : o < 46) :
    ∃ h2 : pH, f_Mg_drop G (B 43) (nI g) (nI s) (nI v) (nI o) h = some (.inr (some (.int (dropR (gs g) (4096 * s + 64 * v + o)))), h2) ∧ Ch h h2 (inB B) ∧ RC h2 B (upG gs g (gDel (4096 * s + 64 * v + o) (gs g))) cc cl bst := by
  have hgr := hr.2.1 g (by omega)
  obtain ⟨h2, a1, a2, a3⟩ := gr_erase (G := G) (n := 4096 * s + 64 * v + o) hG hgr hA hs (by omega)
  refine ⟨h2, ?_, a2.mono (inB_g (by omega)), hr.set (by omega) a2 a3⟩
  rw [f_Mg_drop_eq, tR_of hr.is (mg_graphAt hr hg), tI_of rfl (mg_checked h1 (by omega) h3), cI_of hgr.is a1]
end CLP
