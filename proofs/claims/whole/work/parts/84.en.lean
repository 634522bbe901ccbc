/-! PURE: the end of the making: class and reference stand side by side, all empty -/
/-- the class's cells by the number of their making -/
def kB (i : Nat) : Nat := [32, 34, 36, 38, 40, 42, 2, 4, 6, 11, 26, 33, 35, 37, 39, 41, 43, 3, 5, 7, 12, 27, 1, 8, 9, 10, 13, 21, 14, 15, 16, 17, 18, 19, 20, 22, 23, 24, 25, 28, 29, 30, 31, 0].getD i 0
def kV (i : Nat) : Nat := [43, 22, 6, 17, 7, 18, 8, 19, 23, 24, 25, 9, 20, 26, 28, 29, 30, 31, 32, 33, 34, 27, 35, 36, 37, 38, 10, 21, 39, 40, 41, 42, 0, 11, 1, 12, 2, 13, 3, 14, 4, 15, 5, 16].getD i 0
/-- the reference's rows by the number of their making -/
def kA (j : Nat) : Nat := [44, 45, 46, 47, 44, 48, 49, 44, 50, 44, 51, 52, 44, 53, 54, 44, 44, 55, 56].getD j 44
def kW (i : Nat) : Nat := [1, 2, 3, 5, 6, 8, 10, 11, 13, 14, 17, 18].getD (i - 45) 0
theorem kB_lt : ∀ i : Nat, i < 44 → kB i < 44 := by decide
theorem kV_kB : ∀ i : Nat, i < 44 → kV (kB i) = i := by decide
theorem kA_ok : ∀ j ∈ moI, 44 < kA j ∧ kA j < 57 ∧ kW (kA j) = j := by decide
theorem fo_nil : FormOf [] [] := by
  have z : ∀ x : Nat, stb 2 [] x = true → False := fun x q => (by cases q)
  exact ⟨⟨fun n => n, ⟨fun i _ q => absurd q (z _), fun i j _ _ _ q => absurd q (z _)⟩, rfl⟩, fun σ _ i hi => absurd hi (Nat.not_lt_zero _)⟩
theorem kn_end {H : pH} {a : Nat → Nat} {c : Nat → pE} (k : KN H 58 a c)
    (c0 : c 0 = .inr (3, [.ref (a 1), .ref (a 2), .ref (a 4), .ref (a 6), .ref (a 8), .int 0, .ref (a 9), .ref (a 10), .ref (a 25)]))
    (c1 : c 1 = .inl (2, 6, .inr (.inr (.inr (.inr (fun i => if i < 6 then some (a (kB i)) else none))))))
    (cg : ∀ i : Nat, i < 11 → c (kB i) = .inr (0, [.ref (a (kB (11 + i))), .int 0]) ∧ c (kB (11 + i)) = .inl (0, 30, .inl (fun _ => 0)))
    (c8 : c 8 = .inl (0, 92, .inl (fun _ => 0))) (c9 : c 9 = .inl (0, 6, .inl (fun _ => 0)))
    (c10 : c 10 = .inr (1, [.ref (a 11), .int 0, .ref (a 13), .int 0, .ref (a 21), .ref (a 22), .ref (a 23), .ref (a 24)]))
    (c13 : c 13 = .inl (0, 30, .inl (fun _ => 0)))
    (cr : ∀ i : Nat, i < 7 → c (kB (28 + i)) = .inl (1, 6, .inr (.inl (fun _ => 0))))
    (c21 : c 21 = .inl (3, 7, .inr (.inr (.inr (.inr (fun i => if i < 7 then some (a (kB (28 + i))) else none))))))
    (c22 : c 22 = .inl (1, 1840, .inr (.inl (fun _ => 0)))) (c23 : c 23 = .inl (1, 1840, .inr (.inl (fun _ => 0)))) (c24 : c 24 = .inl (0, 6, .inl (fun _ => 0)))
    (c25 : c 25 = .inr (2, [.ref (a 26), .ref (a 28), .ref (a 29), .ref (a 30), .int 0, .ref (a 31)]))
    (c28 : c 28 = .inl (0, 6, .inl (fun _ => 0))) (c29 : c 29 = .inl (0, 30, .inl (fun _ => 0))) (c30 : c 30 = .inl (0, 30, .inl (fun _ => 0))) (c31 : c 31 = .inl (0, 6, .inl (fun _ => 0)))
    (c44 : c 44 = .inr (4, moF (fun j => a (kA j)) (fun _ => 0)))
    (ca : ∀ j ∈ moI, c (kA j) = .inl (0, moL j, .inl (fun _ => 0)))
    (c57 : c 57 = .inl (1, 1, .inr (.inl (fun _ => 0)))) :
    APt (fun i => a (kB i)) (fun j => a (kA j)) (a 44) (a 57) ∧ LI (fun i => a (kB i)) (fun j => a (kA j)) (a 44) (a 57) H := by
  have at' : ∀ i : Nat, i < 58 → H.2 (a i) = c i := fun i hi => (k.1 i hi).2
  have mm : ∀ i : Nat, i < 58 → a i ∈ H.1 := fun i hi => (k.1 i hi).1
  have ne : ∀ i j : Nat, i < 58 → j < 58 → i ≠ j → a i ≠ a j := fun i j hi hj hn w => hn (k.2 i j hi hj w)
  refine ⟨⟨fun i hi => ?_, ne 57 44 (by decide) (by decide) (by decide), fun j hj => ?_⟩, fun _ => 0, fun _ _ => 0, fun _ => [], 0, fun _ => 0, fun _ => 0, [], ?_, ?_, ?_, ?_, ?_, ?_⟩
  · have b := kB_lt i hi
    refine ⟨ne _ _ (by omega) (by decide) (by omega), ne _ _ (by omega) (by decide) (by omega), fun j hj => ?_⟩
    obtain ⟨j1, j2, _⟩ := kA_ok j hj
    exact ne _ _ (by omega) (by omega) (by omega)
  · obtain ⟨j1, j2, _⟩ := kA_ok j hj
    exact ne _ _ (by omega) (by omega) (by omega)
  · refine mo_self ((at' 44 (by decide)).trans c44) (fun j hj => ?_)
    obtain ⟨j1, j2, _⟩ := kA_ok j hj
    exact (at' (kA j) (by omega)).trans (ca j hj)
  · refine ⟨mm 44 (by decide), fun j hj => ?_, fun i hi j hj w => ?_⟩
    · obtain ⟨j1, j2, _⟩ := kA_ok j hj
      exact ⟨mm _ (by omega), ne _ _ (by omega) (by decide) (by omega)⟩
    · obtain ⟨i1, i2, i3⟩ := kA_ok i hi
      obtain ⟨j1, j2, j3⟩ := kA_ok j hj
      have := k.2 (kA i) (kA j) (by omega) (by omega) w
      rw [← i3, this, j3]
  · refine ⟨⟨fun i hi => ?_, fun i j hi hj w => ?_⟩, fun i hi => ?_, (at' 0 (by decide)).trans c0, (at' 1 (by decide)).trans c1, (at' 8 (by decide)).trans c8, ⟨_, (at' 9 (by decide)).trans c9⟩, ⟨_, _, (at' 10 (by decide)).trans c10⟩, ⟨_, (at' 13 (by decide)).trans c13⟩, (at' 21 (by decide)).trans c21, fun i hi => ?_, (at' 22 (by decide)).trans c22, (at' 23 (by decide)).trans c23, ⟨_, (at' 24 (by decide)).trans c24⟩, ⟨_, (at' 25 (by decide)).trans c25⟩, ⟨_, (at' 28 (by decide)).trans c28⟩, ⟨_, (at' 29 (by decide)).trans c29⟩, (at' 30 (by decide)).trans c30, ⟨_, (at' 31 (by decide)).trans c31⟩⟩
    · have b := kB_lt i hi
      exact mm _ (by omega)
    · have b1 := kB_lt i hi
      have b2 := kB_lt j hj
      have := k.2 (kB i) (kB j) (by omega) (by omega) w
      rw [← kV_kB i hi, this, kV_kB j hj]
    · have b1 := kB_lt i (by omega)
      have b2 := kB_lt (11 + i) (by omega)
      obtain ⟨g1, g2⟩ := cg i hi
      have hn : kB i ≠ kB (11 + i) := fun w => by
        have e1 := kV_kB i (by omega)
        have e2 := kV_kB (11 + i) (by omega)
        rw [w] at e1
        omega
      exact ⟨mm _ (by omega), mm _ (by omega), ne _ _ (by omega) (by omega) hn, (at' _ (by omega)).trans g1, Nat.zero_le _, _, (at' _ (by omega)).trans g2, fun i hi => absurd hi (Nat.not_lt_zero _)⟩
    · have b2 := kB_lt (28 + i) (by omega)
      exact ⟨_, (at' _ (by omega)).trans (cr i hi)⟩
  · exact ⟨_, (at' 57 (by decide)).trans c57⟩
  · exact mm 57 (by decide)
  · have z1 : Asc [] := fun i j _ h => absurd h (Nat.not_lt_zero _)
    have z2 : okL [] := fun n hn => absurd hn List.not_mem_nil
    refine ⟨fun g _ => ⟨rfl, Nat.zero_le _, fun k hk => absurd hk (Nat.not_lt_zero _)⟩, fun i _ => ⟨z1, z2⟩, ⟨rfl, rfl, Nat.zero_le _, Nat.zero_le _, fun i hi => absurd hi (Nat.not_lt_zero _), fun i hi => absurd hi (Nat.not_lt_zero _)⟩, ⟨z1, z2⟩, ⟨z1, z2⟩, ⟨rfl, fun i hi => absurd hi (Nat.not_lt_zero _), Nat.zero_le _, fun n hn => absurd hn List.not_mem_nil⟩, ⟨rfl, fun i hi => absurd hi (Nat.not_lt_zero _), fun i hi => absurd hi (Nat.not_lt_zero _)⟩, z1, z2, [], fo_nil, fun i hi => absurd hi (Nat.not_lt_zero _)⟩
