/-- what put answers, and what the graph becomes -/
def putR (g : List Nat) (n : Nat) : Int32 := if n ∈ g then 0 else if g.length = 30 then -1 else 1
def putG (g : List Nat) (n : Nat) : List Nat := if n ∈ g then g else if g.length = 30 then g else gIns n g
def upG (gs : Nat → List Nat) (g : Nat) (l : List Nat) : Nat → List Nat := fun i => if i = g then l else gs i
theorem upG_id {gs : Nat → List Nat} {g : Nat} : upG gs g (gs g) = gs := funext fun i => by unfold upG; split <;> simp_all
theorem asc_take {g : List Nat} (k : Nat) (ha : Asc g) : Asc (g.take k) := asc_pw.mpr ((asc_pw.mp ha).sublist (List.take_sublist k g))
theorem sm_take {g : List Nat} (k : Nat) (hs : Sm g) : Sm (g.take k) := Sm_mem.mpr fun m hm => Sm_mem.mp hs m (List.mem_of_mem_take hm)
theorem take_ins {g : List Nat} {k : Nat} (ha : Asc g) (hk : k < g.length) : gIns (g.getD k 0) (g.take k) = g.take (k + 1) := by
  refine asc_ext (gIns_asc (asc_take k ha)) (asc_take _ ha) (fun m => ?_)
  rw [gIns_mem, List.take_succ, List.mem_append, List.getElem?_eq_getElem hk, List.getD_eq_getElem?_getD, List.getElem?_eq_getElem hk]
  simp
theorem moG_3 {R : Nat → Nat → Int32} {gs : Nat → List Nat} {f : Nat → Int32} (hR : moG R gs) : moG (upR R 3 f) gs := fun i hi => hR i hi
section MO6
variable {h : pH} {m : Nat} {A : Nat → Nat}
theorem mo_put_loop {G g s v o : Nat} {gs : Nat → List Nat} (hG : 100 ≤ G) (ha : moA h m A) (hg : g < 6) (hA : Asc (gs g)) (hs : Sm (gs g)) (hn : 4096 * s + 64 * v + o < 2 ^ 20) (hlen : (gs g).length < 30) (hnm : 4096 * s + 64 * v + o ∉ gs g) :
    ∀ (d F k : Nat) (S : Nat → Int32) (R : Nat → Nat → Int32), d < F → k + d = (gs g).length → moG R gs → moM S R ((gs g).take k) →
      ∃ (S2 : Nat → Int32) (R2 : Nat → Nat → Int32), f_Mo_put_b58 G F m (nI g) (nI s) (nI v) (nI o) (nI k) (moH h m A S R) = some (some (.int 1), moH h m A S2 R2) ∧ moG R2 (upG gs g (gIns (4096 * s + 64 * v + o) (gs g))) ∧ (∀ j : Nat, j ≠ 4 → S2 j = S j) ∧ ∀ j : Nat, j ≠ 1 → j ≠ 2 → j ≠ 3 → R2 j = R j := by
  intro d
  induction d with
  | zero =>
    intro F k S R hF hk hR hM
    obtain ⟨F, rfl⟩ : ∃ F', F = F' + 1 := ⟨F - 1, by omega⟩
    obtain ⟨q1, q2, q3⟩ := hR g hg
    have hfull : (gs g).take k = gs g := List.take_of_length_le (by omega)
    rw [hfull] at hM
    obtain ⟨S2, f2, a1, a2, a3⟩ := mo_add (G := G) (n := 4096 * s + 64 * v + o) hG ha hM (by omega) hn
    have hl2 : (gIns (4096 * s + 64 * v + o) (gs g)).length ≤ 30 := by rw [gIns_len hA hnm]; omega
    obtain ⟨f3, f4, b1, b2⟩ := mo_keep (G := G) (g := g) hG ha a2 (moG_3 (f := f2) hR) hl2 hg
    refine ⟨S2, upR (upR (upR R 3 f2) 1 f3) 2 f4, ?_, b2, a3, fun j h1 h2 h3 => by simp [upR, h1, h2, h3]⟩
    rw [f_Mo_put_b58_eq, mo_g2 ha, Option.bind_some, mo_a2 ha hg, Option.bind_some, q1, if_pos (nI_le (by omega) (by omega)), cI_of rfl mo_numbered, cV_of (mo_is ha) a1, cV_of (mo_is ha) b1]
  | succ d ih =>
    intro F k S R hF hk hR hM
    obtain ⟨F, rfl⟩ : ∃ F', F = F' + 1 := ⟨F - 1, by omega⟩
    obtain ⟨q1, q2, q3⟩ := hR g hg
    have hsm := hs k (by omega)
    obtain ⟨S2, f2, a1, a2, a3⟩ := mo_add (G := G) (n := (gs g).getD k 0) hG ha hM (by rw [List.length_take]; omega) hsm
    rw [take_ins hA (by omega)] at a2
    obtain ⟨S3, R3, b1, b2, b3, b4⟩ := ih F (k + 1) S2 (upR R 3 f2) (by omega) (by omega) (moG_3 hR) a2
    refine ⟨S3, R3, ?_, b2, fun j hj => (b3 j hj).trans (a3 j hj), fun j h1 h2 h3 => (b4 j h1 h2 h3).trans (if_neg h3)⟩
    rw [f_Mo_put_b58_eq, mo_g2 ha, Option.bind_some, mo_a2 ha hg, Option.bind_some, q1, if_neg (nI_ge (by omega) (by omega)), cI_of (mo_is ha) (mo_numberOf ha hg (by omega)), q3 k (by omega), cV_of (mo_is ha) a1, nI_1, b1]
/-- put: a wrong argument -/
theorem mo_put_bad {G : Nat} {g s v o : Int32} {S : Nat → Int32} {R : Nat → Nat → Int32} (ha : moA h m A) (hb : wr g s v o ≠ 0) : f_Mo_put G m g s v o (moH h m A S R) = some (some (.int 0), moH h m A (upd S 0 (wr g s v o)) R) := by
  have hp : 0 < wr g s v o := by
    unfold wr at hb ⊢
    split
    · split
      · rename_i h1 h2; rw [if_pos h1, if_pos h2] at hb; exact absurd rfl hb
      · decide
    · decide
  rw [f_Mo_put_eq, cI_of (mo_is ha) mo_wrong, mo_p0 ha, Option.bind_some, mo_g0 ha, Option.bind_some, if_pos (show 0 < upd S 0 (wr g s v o) 0 by simp [upd]; exact hp)]
  rfl
/-- put, the arguments being right -/
theorem mo_put {G g s v o : Nat} {S : Nat → Int32} {R : Nat → Nat → Int32} {gs : Nat → List Nat} (hG : 100 ≤ G) (ha : moA h m A) (hR : moG R gs) (hg : g < 6) (hA : Asc (gs g)) (hs : Sm (gs g)) (h1 : s < 46) (h2 : v < 40) (h3 : o < 46) :
    ∃ (S2 : Nat → Int32) (R2 : Nat → Nat → Int32), f_Mo_put G m (nI g) (nI s) (nI v) (nI o) (moH h m A S R) = some (some (.int (putR (gs g) (4096 * s + 64 * v + o))), moH h m A S2 R2) ∧ moG R2 (upG gs g (putG (gs g) (4096 * s + 64 * v + o))) ∧ S2 0 = 0 ∧ (∀ j : Nat, j ≠ 0 → j ≠ 4 → S2 j = S j) ∧ ∀ j : Nat, j ≠ 1 → j ≠ 2 → j ≠ 3 → R2 j = R j := by
  obtain ⟨q1, q2, q3⟩ := hR g hg
  have hw : wr (nI g) (nI s) (nI v) (nI o) = 0 := by
    unfold wr
    rw [if_pos ⟨by rw [nI_toInt (by omega)]; omega, by rw [nI_toInt (by omega)]; omega⟩, if_pos]
    refine ⟨⟨?_, ?_⟩, ⟨?_, ?_⟩, ⟨?_, ?_⟩⟩ <;> rw [nI_toInt (by omega)] <;> omega
  have hu : upd S 0 0 0 = 0 := by simp [upd]
  have hk : ∀ j : Nat, j ≠ 0 → j ≠ 4 → upd S 0 0 j = S j := fun j a _ => by simp [upd, a]
  have hb : f_Mo_put G m (nI g) (nI s) (nI v) (nI o) (moH h m A S R) = (if (if 4096 * s + 64 * v + o ∈ gs g then (1 : Int32) else 0) = 0 then (if nI (gs g).length = (30 : Int32) then some (some (.int (-1 : Int32)), moH h m A (upd S 0 0) R) else f_Mo_put_b58 G G m (nI g) (nI s) (nI v) (nI o) (0 : Int32) (moH h m A (upd (upd S 0 0) 4 0) R)) else some (some (.int 0), moH h m A (upd S 0 0) R)) := by
    rw [f_Mo_put_eq, cI_of (mo_is ha) mo_wrong, hw, mo_p0 ha, Option.bind_some, mo_g0 ha, Option.bind_some, hu, if_neg (by decide), cI_of rfl mo_numbered, cI_of (mo_is ha) (mo_has (by omega) ha hR hg hs (by omega)), mo_g2 ha, Option.bind_some, mo_a2 ha hg, Option.bind_some, q1, mo_p4 ha, Option.bind_some]
    rfl
  unfold putR putG
  by_cases hm : 4096 * s + 64 * v + o ∈ gs g
  · rw [if_pos hm, if_pos hm]
    refine ⟨upd S 0 0, R, ?_, by rw [upG_id]; exact hR, hu, hk, fun _ _ _ _ => rfl⟩
    rw [hb, if_pos hm, if_neg (by decide)]
  · rw [if_neg hm, if_neg hm]
    by_cases hl : (gs g).length = 30
    · rw [if_pos hl, if_pos hl]
      refine ⟨upd S 0 0, R, ?_, by rw [upG_id]; exact hR, hu, hk, fun _ _ _ _ => rfl⟩
      rw [hb, if_neg hm, if_pos rfl, hl, if_pos (show nI 30 = (30 : Int32) from rfl)]
    · rw [if_neg hl, if_neg hl]
      obtain ⟨S2, R2, a1, a2, a3, a4⟩ := mo_put_loop (G := G) (s := s) (v := v) (o := o) hG ha hg hA hs (by omega) (by omega) hm (gs g).length G 0 (upd (upd S 0 0) 4 0) R (by omega) (by omega) hR ⟨by simp [upd]; rfl, fun i hi => by simp at hi, fun i j _ hj => by simp at hj, fun i hi => by simp at hi⟩
      refine ⟨S2, R2, ?_, a2, by rw [a3 0 (by decide)]; simp [upd], fun j b1 b2 => by rw [a3 j b2]; simp [upd, b1, b2], a4⟩
      rw [hb, if_neg hm, if_pos rfl, if_neg (show ¬ nI (gs g).length = (30 : Int32) from fun q => hl ((nI_eq (b := 30) (by omega) (by omega)).mp q))]
      exact a1
end MO6
