theorem mem_take1 {g : List Nat} {k m : Nat} (hk : k < g.length) : m ∈ g.take (k + 1) ↔ m ∈ g.take k ∨ m = g.getD k 0 := by
  rw [List.take_succ, List.mem_append, List.getElem?_eq_getElem hk, List.getD_eq_getElem?_getD, List.getElem?_eq_getElem hk]
  simp
theorem del_take_in {g : List Nat} {k n : Nat} (ha : Asc g) (hk : k < g.length) (hn : g.getD k 0 ≠ n) : gIns (g.getD k 0) (gDel n (g.take k)) = gDel n (g.take (k + 1)) := by
  refine asc_ext (gIns_asc (gDel_asc (asc_take k ha))) (gDel_asc (asc_take _ ha)) (fun m => ?_)
  rw [gIns_mem, gDel_mem, gDel_mem, mem_take1 hk]
  constructor
  · rintro (⟨h1, h2⟩ | h1)
    · exact ⟨Or.inl h1, h2⟩
    · exact ⟨Or.inr h1, fun q => hn (h1 ▸ q)⟩
  · rintro ⟨h1 | h1, h2⟩
    · exact Or.inl ⟨h1, h2⟩
    · exact Or.inr h1
theorem del_take_out {g : List Nat} {k n : Nat} (ha : Asc g) (hk : k < g.length) (hn : g.getD k 0 = n) : gDel n (g.take k) = gDel n (g.take (k + 1)) := by
  refine asc_ext (gDel_asc (asc_take k ha)) (gDel_asc (asc_take _ ha)) (fun m => ?_)
  rw [gDel_mem, gDel_mem, mem_take1 hk]
  constructor
  · rintro ⟨h1, h2⟩; exact ⟨Or.inl h1, h2⟩
  · rintro ⟨h1 | h1, h2⟩
    · exact ⟨h1, h2⟩
    · exact absurd (h1.trans hn) h2
theorem gDel_len {n : Nat} {g : List Nat} : (gDel n g).length ≤ g.length := List.length_filter_le _ _
section MO7
variable {h : pH} {m : Nat} {A : Nat → Nat}
theorem mo_drop_loop {G g s v o : Nat} {gs : Nat → List Nat} (hG : 100 ≤ G) (ha : moA h m A) (hg : g < 6) (hA : Asc (gs g)) (hs : Sm (gs g)) (hn : 4096 * s + 64 * v + o < 2 ^ 20) :
    ∀ (d F k : Nat) (S : Nat → Int32) (R : Nat → Nat → Int32), d < F → k + d = (gs g).length → moG R gs → moM S R (gDel (4096 * s + 64 * v + o) ((gs g).take k)) →
      ∃ (S2 : Nat → Int32) (R2 : Nat → Nat → Int32), f_Mo_drop_b45 G F m (nI g) (nI s) (nI v) (nI o) (nI k) (moH h m A S R) = some (some (.int 1), moH h m A S2 R2) ∧ moG R2 (upG gs g (gDel (4096 * s + 64 * v + o) (gs g))) ∧ (∀ j : Nat, j ≠ 4 → S2 j = S j) ∧ ∀ j : Nat, j ≠ 1 → j ≠ 2 → j ≠ 3 → R2 j = R j := by
  intro d
  induction d with
  | zero =>
    intro F k S R hF hk hR hM
    obtain ⟨F, rfl⟩ : ∃ F', F = F' + 1 := ⟨F - 1, by omega⟩
    obtain ⟨q1, q2, q3⟩ := hR g hg
    rw [List.take_of_length_le (by omega)] at hM
    obtain ⟨f3, f4, b1, b2⟩ := mo_keep (G := G) (g := g) hG ha hM hR (Nat.le_trans gDel_len q2) hg
    refine ⟨S, upR (upR R 1 f3) 2 f4, ?_, b2, fun _ _ => rfl, fun j h1 h2 _ => by simp [upR, h1, h2]⟩
    rw [f_Mo_drop_b45_eq, mo_g2 ha, Option.bind_some, mo_a2 ha hg, Option.bind_some, q1, if_pos (nI_le (by omega) (by omega)), cV_of (mo_is ha) b1]
  | succ d ih =>
    intro F k S R hF hk hR hM
    obtain ⟨F, rfl⟩ : ∃ F', F = F' + 1 := ⟨F - 1, by omega⟩
    obtain ⟨q1, q2, q3⟩ := hR g hg
    have hsm := hs k (by omega)
    by_cases he : (gs g).getD k 0 = 4096 * s + 64 * v + o
    · rw [del_take_out hA (by omega) he] at hM
      obtain ⟨S3, R3, b1, b2, b3, b4⟩ := ih F (k + 1) S R (by omega) (by omega) hR hM
      refine ⟨S3, R3, ?_, b2, b3, b4⟩
      rw [f_Mo_drop_b45_eq, mo_g2 ha, Option.bind_some, mo_a2 ha hg, Option.bind_some, q1, if_neg (nI_ge (by omega) (by omega)), cI_of (mo_is ha) (mo_numberOf ha hg (by omega)), cI_of rfl mo_numbered, q3 k (by omega), he, if_pos rfl, f_Mo_drop_b84_eq, nI_1, b1]
    · have hll : (gDel (4096 * s + 64 * v + o) ((gs g).take k)).length < 63 := by
        have h1 := gDel_len (n := 4096 * s + 64 * v + o) (g := (gs g).take k)
        rw [List.length_take] at h1
        omega
      obtain ⟨S2, f2, a1, a2, a3⟩ := mo_add (G := G) (n := (gs g).getD k 0) hG ha hM hll hsm
      rw [del_take_in hA (by omega) he] at a2
      obtain ⟨S3, R3, b1, b2, b3, b4⟩ := ih F (k + 1) S2 (upR R 3 f2) (by omega) (by omega) (moG_3 hR) a2
      refine ⟨S3, R3, ?_, b2, fun j hj => (b3 j hj).trans (a3 j hj), fun j h1 h2 h3 => (b4 j h1 h2 h3).trans (if_neg h3)⟩
      rw [f_Mo_drop_b45_eq, mo_g2 ha, Option.bind_some, mo_a2 ha hg, Option.bind_some, q1, if_neg (nI_ge (by omega) (by omega)), cI_of (mo_is ha) (mo_numberOf ha hg (by omega)), cI_of rfl mo_numbered, q3 k (by omega), if_neg (fun q => he ((nI_eq (by omega) (by omega)).mp q)), cI_of (mo_is ha) (mo_numberOf ha hg (by omega)), q3 k (by omega), cV_of (mo_is ha) a1, f_Mo_drop_b84_eq, nI_1, b1]
theorem mo_drop_bad {G : Nat} {g s v o : Int32} {S : Nat → Int32} {R : Nat → Nat → Int32} (ha : moA h m A) (hb : wr g s v o ≠ 0) : f_Mo_drop G m g s v o (moH h m A S R) = some (some (.int 0), moH h m A (upd S 0 (wr g s v o)) R) := by
  have hp : 0 < wr g s v o := by
    unfold wr at hb ⊢
    split
    · split
      · rename_i h1 h2; rw [if_pos h1, if_pos h2] at hb; exact absurd rfl hb
      · decide
    · decide
  rw [f_Mo_drop_eq, cI_of (mo_is ha) mo_wrong, mo_p0 ha, Option.bind_some, mo_g0 ha, Option.bind_some, if_pos (show 0 < upd S 0 (wr g s v o) 0 by simp [upd]; exact hp)]
  rfl
theorem wr_ok {g s v o : Nat} (hg : g < 6) (h1 : s < 46) (h2 : v < 40) (h3 : o < 46) : wr (nI g) (nI s) (nI v) (nI o) = 0 := by
  unfold wr
  rw [if_pos ⟨by rw [nI_toInt (by omega)]; omega, by rw [nI_toInt (by omega)]; omega⟩, if_pos]
  refine ⟨⟨?_, ?_⟩, ⟨?_, ?_⟩, ⟨?_, ?_⟩⟩ <;> rw [nI_toInt (by omega)] <;> omega
/-- drop, the arguments being right -/
theorem mo_drop {G g s v o : Nat} {S : Nat → Int32} {R : Nat → Nat → Int32} {gs : Nat → List Nat} (hG : 100 ≤ G) (ha : moA h m A) (hR : moG R gs) (hg : g < 6) (hA : Asc (gs g)) (hs : Sm (gs g)) (h1 : s < 46) (h2 : v < 40) (h3 : o < 46) :
    ∃ (S2 : Nat → Int32) (R2 : Nat → Nat → Int32), f_Mo_drop G m (nI g) (nI s) (nI v) (nI o) (moH h m A S R) = some (some (.int (if 4096 * s + 64 * v + o ∈ gs g then 1 else 0)), moH h m A S2 R2) ∧ moG R2 (upG gs g (gDel (4096 * s + 64 * v + o) (gs g))) ∧ S2 0 = 0 ∧ (∀ j : Nat, j ≠ 0 → j ≠ 4 → S2 j = S j) ∧ ∀ j : Nat, j ≠ 1 → j ≠ 2 → j ≠ 3 → R2 j = R j := by
  obtain ⟨q1, q2, q3⟩ := hR g hg
  have hu : upd S 0 0 0 = 0 := by simp [upd]
  have hk : ∀ j : Nat, j ≠ 0 → j ≠ 4 → upd S 0 0 j = S j := fun j a _ => by simp [upd, a]
  have hb : f_Mo_drop G m (nI g) (nI s) (nI v) (nI o) (moH h m A S R) = (if (if 4096 * s + 64 * v + o ∈ gs g then (1 : Int32) else 0) = 0 then some (some (.int 0), moH h m A (upd S 0 0) R) else f_Mo_drop_b45 G G m (nI g) (nI s) (nI v) (nI o) (0 : Int32) (moH h m A (upd (upd S 0 0) 4 0) R)) := by
    rw [f_Mo_drop_eq, cI_of (mo_is ha) mo_wrong, wr_ok hg h1 h2 h3, mo_p0 ha, Option.bind_some, mo_g0 ha, Option.bind_some, hu, if_neg (by decide), cI_of rfl mo_numbered, cI_of (mo_is ha) (mo_has (by omega) ha hR hg hs (by omega)), mo_p4 ha, Option.bind_some]
    rfl
  by_cases hm : 4096 * s + 64 * v + o ∈ gs g
  · rw [if_pos hm]
    obtain ⟨S2, R2, a1, a2, a3, a4⟩ := mo_drop_loop (G := G) (s := s) (v := v) (o := o) hG ha hg hA hs (by omega) (gs g).length G 0 (upd (upd S 0 0) 4 0) R (by omega) (by omega) hR ⟨by simp [upd, gDel]; rfl, fun i hi => by simp [gDel] at hi, fun i j _ hj => by simp [gDel] at hj, fun i hi => by simp [gDel] at hi⟩
    refine ⟨S2, R2, ?_, a2, by rw [a3 0 (by decide)]; simp [upd], fun j b1 b2 => by rw [a3 j b2]; simp [upd, b1, b2], a4⟩
    rw [hb, if_pos hm, if_neg (by decide)]
    exact a1
  · rw [if_neg hm, gDel_id hA hm, upG_id]
    refine ⟨upd S 0 0, R, ?_, hR, hu, hk, fun _ _ _ _ => rfl⟩
    rw [hb, if_neg hm, if_pos rfl]
end MO7
