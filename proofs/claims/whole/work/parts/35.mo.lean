/-! PURE: the reference: its numbers S by field, its rows R by field, at the addresses A -/
def moL : Nat → Nat := fun j => match j with
  | 1 => 180
  | 2 => 6
  | 3 => 64
  | 5 => 64
  | 6 => 6
  | 8 => 46
  | 10 => 6
  | 11 => 6
  | 13 => 92
  | 14 => 92
  | 17 => 30
  | 18 => 30
  | _ => 0
def moI : List Nat := [1, 2, 3, 5, 6, 8, 10, 11, 13, 14, 17, 18]
def moF (A : Nat → Nat) (S : Nat → Int32) : List Value := [.int (S 0), .ref (A 1), .ref (A 2), .ref (A 3), .int (S 4), .ref (A 5), .ref (A 6), .int (S 7), .ref (A 8), .int (S 9), .ref (A 10), .ref (A 11), .int (S 12), .ref (A 13), .ref (A 14), .int (S 15), .int (S 16), .ref (A 17), .ref (A 18)]
def moH (h : pH) (m : Nat) (A : Nat → Nat) (S : Nat → Int32) (R : Nat → Nat → Int32) : pH := (h.1, fun x => if x = m then .inr (4, moF A S) else match moI.find? (fun j => decide (A j = x)) with
  | some j => .inl (0, moL j, .inl (R j))
  | none => h.2 x)
/-- the addresses are in use, and apart -/
def moA (h : pH) (m : Nat) (A : Nat → Nat) : Prop := m ∈ h.1 ∧ (∀ j ∈ moI, A j ∈ h.1 ∧ A j ≠ m) ∧ ∀ i ∈ moI, ∀ j ∈ moI, A i = A j → i = j
def upR (R : Nat → Nat → Int32) (j : Nat) (f : Nat → Int32) : Nat → Nat → Int32 := fun i => if i = j then f else R i
theorem moH_1 (h : pH) (m : Nat) (A : Nat → Nat) (S : Nat → Int32) (R : Nat → Nat → Int32) : (moH h m A S R).1 = h.1 := rfl
theorem moH_m {h : pH} {m : Nat} {A : Nat → Nat} {S : Nat → Int32} {R : Nat → Nat → Int32} : (moH h m A S R).2 m = .inr (4, moF A S) := if_pos rfl
theorem moI_find {h : pH} {m j : Nat} {A : Nat → Nat} (ha : moA h m A) (hj : j ∈ moI) : moI.find? (fun i => decide (A i = A j)) = some j := by
  cases hf : moI.find? (fun i => decide (A i = A j)) with
  | none => exact (List.find?_eq_none.mp hf j hj (decide_eq_true (rfl : A j = A j))).elim
  | some i =>
    have h1 := List.mem_of_find?_eq_some hf
    have h2 := List.find?_some hf
    rw [ha.2.2 i h1 j hj (of_decide_eq_true h2)]
theorem moH_r {h : pH} {m j : Nat} {A : Nat → Nat} {S : Nat → Int32} {R : Nat → Nat → Int32} (ha : moA h m A) (hj : j ∈ moI) : (moH h m A S R).2 (A j) = .inl (0, moL j, .inl (R j)) := by
  show (if A j = m then _ else _) = _
  rw [if_neg (ha.2.1 j hj).2, moI_find ha hj]
theorem moH_o {h : pH} {m x : Nat} {A : Nat → Nat} {S : Nat → Int32} {R : Nat → Nat → Int32} (hx : x ≠ m) (hn : ∀ j ∈ moI, A j ≠ x) : (moH h m A S R).2 x = h.2 x := by
  show (if x = m then _ else _) = _
  rw [if_neg hx]
  have : moI.find? (fun j => decide (A j = x)) = none := List.find?_eq_none.mpr fun j hj => by simpa using hn j hj
  rw [this]
theorem mo_up {h : pH} {m j : Nat} {A : Nat → Nat} {S : Nat → Int32} {R : Nat → Nat → Int32} {f : Nat → Int32} (ha : moA h m A) (hj : j ∈ moI) : hU (moH h m A S R) (A j) (.inl (0, moL j, .inl f)) = moH h m A S (upR R j f) := by
  refine Prod.ext rfl (funext fun x => ?_)
  by_cases hx : x = A j
  · subst hx
    rw [hU_s, moH_r ha hj]
    simp [upR]
  · rw [hU_n _ _ hx]
    by_cases hm : x = m
    · subst hm; rw [moH_m, moH_m]
    · by_cases hi : ∃ i ∈ moI, A i = x
      · obtain ⟨i, h1, rfl⟩ := hi
        rw [moH_r ha h1, moH_r ha h1]
        have : i ≠ j := fun q => hx (by rw [q])
        simp [upR, this]
      · rw [moH_o hm (fun i h1 h2 => hi ⟨i, h1, h2⟩), moH_o hm (fun i h1 h2 => hi ⟨i, h1, h2⟩)]
theorem mo_upS {h : pH} {m : Nat} {A : Nat → Nat} {S S2 : Nat → Int32} {R : Nat → Nat → Int32} {fs : List Value} (hf : fs = moF A S2) : hU (moH h m A S R) m (.inr (4, fs)) = moH h m A S2 R := by
  subst hf
  refine Prod.ext rfl (funext fun x => ?_)
  by_cases hx : x = m
  · subst hx; rw [hU_s, moH_m]
  · rw [hU_n _ _ hx]
    show (if x = m then _ else _) = (if x = m then _ else _)
    rw [if_neg hx, if_neg hx]
section MO
variable {h : pH} {m : Nat} {A : Nat → Nat} {S : Nat → Int32} {R : Nat → Nat → Int32}
theorem mo_is (ha : moA h m A) : oC (moH h m A S R) m 4 = true := oC_of moH_m ha.1
theorem mo_aI {j i n : Nat} (ha : moA h m A) (hj : j ∈ moI) (hn : moL j = n) (hn2 : n < 2 ^ 31) (hi : i < n) : aI (moH h m A S R) (A j) (nI i) = some (R j i) := by
  subst hn
  exact aI_of (moH_r ha hj) (ha.2.1 j hj).1 hi hn2
theorem mo_sI {j i n : Nat} {x : Int32} (ha : moA h m A) (hj : j ∈ moI) (hn : moL j = n) (hn2 : n < 2 ^ 31) (hi : i < n) : sI (moH h m A S R) (A j) (nI i) x = some (moH h m A S (upR R j (upd (R j) i x))) := by
  subst hn
  rw [sI_of (moH_r ha hj) (ha.2.1 j hj).1 hi hn2, mo_up ha hj]
theorem mo_g0 (ha : moA h m A) : gI (moH h m A S R) m 4 0 = some (S 0) := gI_of moH_m ha.1 rfl
theorem mo_p0 (ha : moA h m A) {x : Int32} : oP (moH h m A S R) m 4 0 (.int x) = some (moH h m A (upd S 0 x) R) := by
  rw [oP_of moH_m ha.1 (Nat.le_of_ble_eq_true rfl), mo_upS (S2 := upd S 0 x)]
  simp [moF, upd]
theorem mo_g1 (ha : moA h m A) : gR (moH h m A S R) m 4 1 = some (A 1) := gR_of moH_m ha.1 rfl
theorem mo_a1 (ha : moA h m A) {i : Nat} (hi : i < 180) : aI (moH h m A S R) (A 1) (nI i) = some (R 1 i) := mo_aI ha (by decide) rfl (by decide) hi
theorem mo_s1 (ha : moA h m A) {i : Nat} {x : Int32} (hi : i < 180) : sI (moH h m A S R) (A 1) (nI i) x = some (moH h m A S (upR R 1 (upd (R 1) i x))) := mo_sI ha (by decide) rfl (by decide) hi
theorem mo_g2 (ha : moA h m A) : gR (moH h m A S R) m 4 2 = some (A 2) := gR_of moH_m ha.1 rfl
theorem mo_a2 (ha : moA h m A) {i : Nat} (hi : i < 6) : aI (moH h m A S R) (A 2) (nI i) = some (R 2 i) := mo_aI ha (by decide) rfl (by decide) hi
theorem mo_s2 (ha : moA h m A) {i : Nat} {x : Int32} (hi : i < 6) : sI (moH h m A S R) (A 2) (nI i) x = some (moH h m A S (upR R 2 (upd (R 2) i x))) := mo_sI ha (by decide) rfl (by decide) hi
theorem mo_g3 (ha : moA h m A) : gR (moH h m A S R) m 4 3 = some (A 3) := gR_of moH_m ha.1 rfl
theorem mo_a3 (ha : moA h m A) {i : Nat} (hi : i < 64) : aI (moH h m A S R) (A 3) (nI i) = some (R 3 i) := mo_aI ha (by decide) rfl (by decide) hi
theorem mo_s3 (ha : moA h m A) {i : Nat} {x : Int32} (hi : i < 64) : sI (moH h m A S R) (A 3) (nI i) x = some (moH h m A S (upR R 3 (upd (R 3) i x))) := mo_sI ha (by decide) rfl (by decide) hi
theorem mo_g4 (ha : moA h m A) : gI (moH h m A S R) m 4 4 = some (S 4) := gI_of moH_m ha.1 rfl
theorem mo_p4 (ha : moA h m A) {x : Int32} : oP (moH h m A S R) m 4 4 (.int x) = some (moH h m A (upd S 4 x) R) := by
  rw [oP_of moH_m ha.1 (Nat.le_of_ble_eq_true rfl), mo_upS (S2 := upd S 4 x)]
  simp [moF, upd]
theorem mo_g5 (ha : moA h m A) : gR (moH h m A S R) m 4 5 = some (A 5) := gR_of moH_m ha.1 rfl
theorem mo_a5 (ha : moA h m A) {i : Nat} (hi : i < 64) : aI (moH h m A S R) (A 5) (nI i) = some (R 5 i) := mo_aI ha (by decide) rfl (by decide) hi
theorem mo_s5 (ha : moA h m A) {i : Nat} {x : Int32} (hi : i < 64) : sI (moH h m A S R) (A 5) (nI i) x = some (moH h m A S (upR R 5 (upd (R 5) i x))) := mo_sI ha (by decide) rfl (by decide) hi
theorem mo_g6 (ha : moA h m A) : gR (moH h m A S R) m 4 6 = some (A 6) := gR_of moH_m ha.1 rfl
theorem mo_a6 (ha : moA h m A) {i : Nat} (hi : i < 6) : aI (moH h m A S R) (A 6) (nI i) = some (R 6 i) := mo_aI ha (by decide) rfl (by decide) hi
theorem mo_s6 (ha : moA h m A) {i : Nat} {x : Int32} (hi : i < 6) : sI (moH h m A S R) (A 6) (nI i) x = some (moH h m A S (upR R 6 (upd (R 6) i x))) := mo_sI ha (by decide) rfl (by decide) hi
theorem mo_g7 (ha : moA h m A) : gI (moH h m A S R) m 4 7 = some (S 7) := gI_of moH_m ha.1 rfl
theorem mo_p7 (ha : moA h m A) {x : Int32} : oP (moH h m A S R) m 4 7 (.int x) = some (moH h m A (upd S 7 x) R) := by
  rw [oP_of moH_m ha.1 (Nat.le_of_ble_eq_true rfl), mo_upS (S2 := upd S 7 x)]
  simp [moF, upd]
theorem mo_g8 (ha : moA h m A) : gR (moH h m A S R) m 4 8 = some (A 8) := gR_of moH_m ha.1 rfl
theorem mo_a8 (ha : moA h m A) {i : Nat} (hi : i < 46) : aI (moH h m A S R) (A 8) (nI i) = some (R 8 i) := mo_aI ha (by decide) rfl (by decide) hi
theorem mo_s8 (ha : moA h m A) {i : Nat} {x : Int32} (hi : i < 46) : sI (moH h m A S R) (A 8) (nI i) x = some (moH h m A S (upR R 8 (upd (R 8) i x))) := mo_sI ha (by decide) rfl (by decide) hi
theorem mo_g9 (ha : moA h m A) : gI (moH h m A S R) m 4 9 = some (S 9) := gI_of moH_m ha.1 rfl
theorem mo_p9 (ha : moA h m A) {x : Int32} : oP (moH h m A S R) m 4 9 (.int x) = some (moH h m A (upd S 9 x) R) := by
  rw [oP_of moH_m ha.1 (Nat.le_of_ble_eq_true rfl), mo_upS (S2 := upd S 9 x)]
  simp [moF, upd]
theorem mo_g10 (ha : moA h m A) : gR (moH h m A S R) m 4 10 = some (A 10) := gR_of moH_m ha.1 rfl
theorem mo_a10 (ha : moA h m A) {i : Nat} (hi : i < 6) : aI (moH h m A S R) (A 10) (nI i) = some (R 10 i) := mo_aI ha (by decide) rfl (by decide) hi
theorem mo_s10 (ha : moA h m A) {i : Nat} {x : Int32} (hi : i < 6) : sI (moH h m A S R) (A 10) (nI i) x = some (moH h m A S (upR R 10 (upd (R 10) i x))) := mo_sI ha (by decide) rfl (by decide) hi
theorem mo_g11 (ha : moA h m A) : gR (moH h m A S R) m 4 11 = some (A 11) := gR_of moH_m ha.1 rfl
theorem mo_a11 (ha : moA h m A) {i : Nat} (hi : i < 6) : aI (moH h m A S R) (A 11) (nI i) = some (R 11 i) := mo_aI ha (by decide) rfl (by decide) hi
theorem mo_s11 (ha : moA h m A) {i : Nat} {x : Int32} (hi : i < 6) : sI (moH h m A S R) (A 11) (nI i) x = some (moH h m A S (upR R 11 (upd (R 11) i x))) := mo_sI ha (by decide) rfl (by decide) hi
theorem mo_g12 (ha : moA h m A) : gI (moH h m A S R) m 4 12 = some (S 12) := gI_of moH_m ha.1 rfl
theorem mo_p12 (ha : moA h m A) {x : Int32} : oP (moH h m A S R) m 4 12 (.int x) = some (moH h m A (upd S 12 x) R) := by
  rw [oP_of moH_m ha.1 (Nat.le_of_ble_eq_true rfl), mo_upS (S2 := upd S 12 x)]
  simp [moF, upd]
theorem mo_g13 (ha : moA h m A) : gR (moH h m A S R) m 4 13 = some (A 13) := gR_of moH_m ha.1 rfl
theorem mo_a13 (ha : moA h m A) {i : Nat} (hi : i < 92) : aI (moH h m A S R) (A 13) (nI i) = some (R 13 i) := mo_aI ha (by decide) rfl (by decide) hi
theorem mo_s13 (ha : moA h m A) {i : Nat} {x : Int32} (hi : i < 92) : sI (moH h m A S R) (A 13) (nI i) x = some (moH h m A S (upR R 13 (upd (R 13) i x))) := mo_sI ha (by decide) rfl (by decide) hi
theorem mo_g14 (ha : moA h m A) : gR (moH h m A S R) m 4 14 = some (A 14) := gR_of moH_m ha.1 rfl
theorem mo_a14 (ha : moA h m A) {i : Nat} (hi : i < 92) : aI (moH h m A S R) (A 14) (nI i) = some (R 14 i) := mo_aI ha (by decide) rfl (by decide) hi
theorem mo_s14 (ha : moA h m A) {i : Nat} {x : Int32} (hi : i < 92) : sI (moH h m A S R) (A 14) (nI i) x = some (moH h m A S (upR R 14 (upd (R 14) i x))) := mo_sI ha (by decide) rfl (by decide) hi
theorem mo_g15 (ha : moA h m A) : gI (moH h m A S R) m 4 15 = some (S 15) := gI_of moH_m ha.1 rfl
theorem mo_p15 (ha : moA h m A) {x : Int32} : oP (moH h m A S R) m 4 15 (.int x) = some (moH h m A (upd S 15 x) R) := by
  rw [oP_of moH_m ha.1 (Nat.le_of_ble_eq_true rfl), mo_upS (S2 := upd S 15 x)]
  simp [moF, upd]
theorem mo_g16 (ha : moA h m A) : gI (moH h m A S R) m 4 16 = some (S 16) := gI_of moH_m ha.1 rfl
theorem mo_p16 (ha : moA h m A) {x : Int32} : oP (moH h m A S R) m 4 16 (.int x) = some (moH h m A (upd S 16 x) R) := by
  rw [oP_of moH_m ha.1 (Nat.le_of_ble_eq_true rfl), mo_upS (S2 := upd S 16 x)]
  simp [moF, upd]
theorem mo_g17 (ha : moA h m A) : gR (moH h m A S R) m 4 17 = some (A 17) := gR_of moH_m ha.1 rfl
theorem mo_a17 (ha : moA h m A) {i : Nat} (hi : i < 30) : aI (moH h m A S R) (A 17) (nI i) = some (R 17 i) := mo_aI ha (by decide) rfl (by decide) hi
theorem mo_s17 (ha : moA h m A) {i : Nat} {x : Int32} (hi : i < 30) : sI (moH h m A S R) (A 17) (nI i) x = some (moH h m A S (upR R 17 (upd (R 17) i x))) := mo_sI ha (by decide) rfl (by decide) hi
theorem mo_g18 (ha : moA h m A) : gR (moH h m A S R) m 4 18 = some (A 18) := gR_of moH_m ha.1 rfl
theorem mo_a18 (ha : moA h m A) {i : Nat} (hi : i < 30) : aI (moH h m A S R) (A 18) (nI i) = some (R 18 i) := mo_aI ha (by decide) rfl (by decide) hi
theorem mo_s18 (ha : moA h m A) {i : Nat} {x : Int32} (hi : i < 30) : sI (moH h m A S R) (A 18) (nI i) x = some (moH h m A S (upR R 18 (upd (R 18) i x))) := mo_sI ha (by decide) rfl (by decide) hi
end MO
