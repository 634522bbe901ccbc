/-! PURE: the reference's search: the last node of a fact, what must be there -/
def m1 (j : Nat) : Int32 := if j = 0 then -1 else nI (j - 1)
theorem m1_tab : ∀ i, i < 8 → ∀ j, j < 8 → (m1 i ≤ m1 j ↔ i ≤ j) ∧ (m1 i = m1 j ↔ i = j) := by decide +kernel
theorem m1_s (j : Nat) : m1 (j + 1) = nI j := rfl
theorem m1_dec (j : Nat) : nI j + (-1) = m1 j := by
  cases j with
  | zero => decide
  | succ j => exact pk_m1 j
theorem m1_inc (j : Nat) : m1 j + 1 = nI j := by
  cases j with
  | zero => decide
  | succ j => rw [m1_s, nI_1]
def ixT (P : List Nat) (t : Nat) : Nat := if 40 ≤ t then cnB P (t - 40) + 1 else 0
def lst (P : List Nat) (n : Nat) : Nat := max (ixT P (n / 4096)) (ixT P (n % 64))
/-- the terms by the nodes' places, as terms by nodes -/
def ru (P : List Nat) (u : Nat → Nat) (i : Nat) : Nat := u (cnB P i)
theorem cn_nd {P : List Nat} {t : Nat} (hP : okL P) (h40 : 40 ≤ t) (ht : stb 2 P t = true) : cnB P (t - 40) < (ndL P).length ∧ (ndL P).getD (cnB P (t - 40)) 0 = t := by
  have h46 := stb_lt hP ht
  obtain ⟨k, k1, k2⟩ := mem_getD.mp (ndL_mem.mpr ⟨⟨h40, h46⟩, ht⟩ : t ∈ ndL P)
  have e : cnB P (t - 40) = k := by
    unfold cnB
    rw [show 40 + (t - 40) = t by omega]
    have := cn_at (fun t => decide (40 ≤ t) && stb 2 P t) (n := 46) k1
    have k2 : ((List.range 46).filter (fun t => decide (40 ≤ t) && stb 2 P t)).getD k 0 = t := k2
    rw [k2] at this
    exact this
  rw [e]; exact ⟨k1, k2⟩
theorem cn_at2 {P : List Nat} {k : Nat} (hk : k < (ndL P).length) : cnB P ((ndL P).getD k 0 - 40) = k := by
  have h1 := (ndL_mem.mp (mem_getD.mpr ⟨k, hk, rfl⟩ : (ndL P).getD k 0 ∈ ndL P)).1
  unfold cnB
  rw [show 40 + ((ndL P).getD k 0 - 40) = (ndL P).getD k 0 by omega]
  exact cn_at _ hk
theorem ixT_le {P : List Nat} {t : Nat} (hP : okL P) (ht : stb 2 P t = true) : ixT P t ≤ (ndL P).length := by
  unfold ixT
  split
  · rename_i q; have := (cn_nd hP q ht).1; omega
  · omega
theorem ren_c {ρ σ : Nat → Nat} {n : Nat} (h1 : 40 ≤ n / 4096 → ρ (n / 4096 - 40) = σ (n / 4096 - 40)) (h2 : 40 ≤ n % 64 → ρ (n % 64 - 40) = σ (n % 64 - 40)) : ren ρ n = ren σ n := by
  have e : ∀ t : Nat, (40 ≤ t → ρ (t - 40) = σ (t - 40)) → tr ρ t = tr σ t := fun t h => by
    unfold tr
    split
    · rename_i q; exact h q.1
    · rfl
  unfold ren
  rw [e _ h1, e _ h2]
/-- what a fact becomes asks only for the terms of its own nodes -/
theorem ren_lst {P : List Nat} {u v : Nat → Nat} {n l : Nat} (hl : lst P n ≤ l) (h : ∀ k, k < l → u k = v k) : ren (ru P u) n = ren (ru P v) n := by
  unfold lst at hl
  refine ren_c (fun q => h _ ?_) (fun q => h _ ?_)
  · have : ixT P (n / 4096) ≤ l := Nat.le_trans (Nat.le_max_left _ _) hl
    unfold ixT at this
    rw [if_pos q] at this
    omega
  · have : ixT P (n % 64) ≤ l := Nat.le_trans (Nat.le_max_right _ _) hl
    unfold ixT at this
    rw [if_pos q] at this
    omega
section MSL
variable {G : Nat} {h : pH} {m : Nat} {A : Nat → Nat} {gs : Nat → List Nat} {S : Nat → Int32} {R : Nat → Nat → Int32} {P : List Nat} {u : Nat → Nat}
theorem mo_ix {t : Nat} (hG : 100 ≤ G) (ha : moA h m A) (hN : moN S R (ndL P)) (hP : okL P) (ht : stb 2 P t = true) : f_Mo_indexOf G m (nI t) (moH h m A S R) = some (some (.int (m1 (ixT P t))), moH h m A S R) := by
  have h46 := stb_lt hP ht
  have hl := ndL_len (g := P)
  unfold ixT
  by_cases h40 : 40 ≤ t
  · obtain ⟨k1, k2⟩ := cn_nd hP h40 ht
    have ix := mo_index (G := G) hG ha hN hl ndL_asc ndL_sm k1
    rw [k2] at ix
    rw [ix, if_pos h40, m1_s]
  · have ix := mo_index_no (G := G) (x := nI t) hG ha hN hl (fun k hk q => by
      have h1 := (ndL_mem.mp (mem_getD.mpr ⟨k, hk, rfl⟩ : (ndL P).getD k 0 ∈ ndL P)).1
      have := (nI_eq (by omega) (by omega)).mp q
      omega)
    rw [ix, if_neg h40]; rfl
theorem mo_lastNode {n : Nat} (hG : 100 ≤ G) (ha : moA h m A) (hN : moN S R (ndL P)) (hP : okL P) (hn : n ∈ P) : f_Mo_lastNode G m (nI n) (moH h m A S R) = some (some (.int (m1 (lst P n))), moH h m A S R) := by
  have n20 := (hP n hn).lt
  have l1 := ixT_le hP (st_s hn)
  have l2 := ixT_le hP (st_o hn)
  have hl := ndL_len (g := P)
  rw [f_Mo_lastNode_eq, cI_of rfl (mo_subj (by omega)), cI_of (mo_is ha) (mo_ix hG ha hN hP (st_s hn)), cI_of rfl (mo_obj (by omega)), cI_of (mo_is ha) (mo_ix hG ha hN hP (st_o hn))]
  unfold lst
  have t := (m1_tab (ixT P (n / 4096)) (by omega) (ixT P (n % 64)) (by omega)).1
  by_cases q : ixT P (n / 4096) ≤ ixT P (n % 64)
  · rw [if_pos (t.mpr q), f_Mo_lastNode_b28_eq, Nat.max_eq_right q]
  · rw [if_neg (fun x => q (t.mp x)), f_Mo_lastNode_b28_eq, Nat.max_eq_left (by omega)]
/-- the image of a fact whose nodes all have their terms -/
theorem mo_putFor2 {t q : Nat} (hG : 100 ≤ G) (ha : moA h m A) (hN : moN S R (ndL P)) (hU : ∀ k, k < q → R 11 k = nI (u k)) (hP : okL P) (ht : stb 2 P t = true) (hq : ixT P t ≤ q) : f_Mo_putFor G m (nI t) (moH h m A S R) = some (some (.int (nI (tr (ru P u) t))), moH h m A S R) := by
  have h46 := stb_lt hP ht
  have hl := ndL_len (g := P)
  rw [f_Mo_putFor_eq, cI_of (mo_is ha) (mo_ix hG ha hN hP ht)]
  unfold ixT at hq ⊢
  unfold tr
  by_cases h40 : 40 ≤ t
  · rw [if_pos h40] at hq ⊢
    obtain ⟨k1, k2⟩ := cn_nd hP h40 ht
    rw [m1_s, if_pos (nI_pos' (by omega)), mo_g11 ha, Option.bind_some, mo_a11 ha (by omega), Option.bind_some, hU _ (by omega), f_Mo_putFor_b20_eq, if_pos ⟨h40, h46⟩]
    rfl
  · rw [if_neg h40, if_neg (by decide), f_Mo_putFor_b20_eq, if_neg (fun x => h40 x.1)]
theorem mo_imageOf2 {n q : Nat} (hG : 100 ≤ G) (ha : moA h m A) (hN : moN S R (ndL P)) (hU : ∀ k, k < q → R 11 k = nI (u k)) (hP : okL P) (hn : n ∈ P) (hq : lst P n ≤ q) : f_Mo_imageOf G m (nI n) (moH h m A S R) = some (some (.int (nI (ren (ru P u) n))), moH h m A S R) := by
  have n20 := (hP n hn).lt
  have h6 : n / 64 < 2 ^ 31 := by omega
  have q1 : ixT P (n / 4096) ≤ q := Nat.le_trans (Nat.le_max_left _ _) hq
  have q2 : ixT P (n % 64) ≤ q := Nat.le_trans (Nat.le_max_right _ _) hq
  rw [f_Mo_imageOf_eq, cI_of rfl (mo_subj (by omega)), cI_of (mo_is ha) (mo_putFor2 hG ha hN hU hP (st_s hn) q1), if_neg (by decide), if_neg (by decide), cI_of rfl (mo_obj (by omega)), cI_of (mo_is ha) (mo_putFor2 hG ha hN hU hP (st_o hn) q2), show (64 : Int32) = nI 64 from rfl, pk_div (by omega) (by decide) (by decide), pk_rem h6 (by decide) (by decide), cI_of rfl mo_numbered]
  rfl
/-- the image is a fact's number, if the terms put are terms -/
theorem ren_ok2 {n q : Nat} (hP : okL P) (hn : n ∈ P) (hq : lst P n ≤ q) (h46 : ∀ k, k < q → u k < 46) : okN (ren (ru P u) n) := by
  have q1 : ixT P (n / 4096) ≤ q := Nat.le_trans (Nat.le_max_left _ _) hq
  have q2 : ixT P (n % 64) ≤ q := Nat.le_trans (Nat.le_max_right _ _) hq
  have one : ∀ t : Nat, ixT P t ≤ q → stb 2 P t = true → tr (ru P u) t < 46 := fun t h1 h2 => by
    have h3 := stb_lt hP h2
    unfold tr
    split
    · rename_i x
      unfold ixT at h1
      rw [if_pos x.1] at h1
      exact h46 _ (by omega)
    · exact h3
  have a1 := one _ q1 (st_s hn)
  have a2 := one _ q2 (st_o hn)
  obtain ⟨b1, b2, b3⟩ := ren_p (ρ := ru P u) (n := n) (by omega)
  exact ⟨by rw [b1]; exact a1, by rw [b2]; exact (hP n hn).2.1, by rw [b3]; exact a2⟩
/-- are the facts whose last node is the j-th (0: those without) in T -/
def arT (P T : List Nat) (u : Nat → Nat) (j : Nat) : Bool := P.all (fun n => decide (lst P n ≠ j) || decide (ren (ru P u) n ∈ T))
theorem arT_c {T : List Nat} {v : Nat → Nat} {j : Nat} (h : ∀ k, k < j → u k = v k) : arT P T u j = arT P T v j := by
  unfold arT
  rw [Bool.eq_iff_iff, List.all_eq_true, List.all_eq_true]
  constructor
  · intro q n hn
    have := q n hn
    by_cases e : lst P n = j
    · rw [ren_lst (Nat.le_of_eq e) h] at this; exact this
    · rw [decide_eq_true e]; rfl
  · intro q n hn
    have := q n hn
    by_cases e : lst P n = j
    · rw [← ren_lst (Nat.le_of_eq e) h] at this; exact this
    · rw [decide_eq_true e]; rfl
theorem mo_areThere {g i j : Nat} (hG : 100 ≤ G) (ha : moA h m A) (hR : moG R gs) (hg : g < 6) (hi : i < 6) (hN : moN S R (ndL (gs g))) (hU : ∀ k, k < j → R 11 k = nI (u k)) (h46 : ∀ k, k < j → u k < 46) (hj : j < 8) (oP1 : okL (gs g)) (oT : okL (gs i)) : f_Mo_areThere G m (nI g) (m1 j) (nI i) (moH h m A S R) = some (some (.int (bI (arT (gs g) (gs i) u j))), moH h m A S R) := by
  obtain ⟨q1, q2, q3⟩ := hR g hg
  have hl := ndL_len (g := gs g)
  have lp : ∀ (d F k : Nat), d < F → k + d = (gs g).length → f_Mo_areThere_b6 G F m (nI g) (m1 j) (nI i) (bI (((gs g).take k).all (fun n => decide (lst (gs g) n ≠ j) || decide (ren (ru (gs g) u) n ∈ gs i)))) (nI k) (moH h m A S R) = some (some (.int (bI (arT (gs g) (gs i) u j))), moH h m A S R) := by
    intro d
    induction d with
    | zero =>
      intro F k hF hk
      obtain ⟨F, rfl⟩ : ∃ F', F = F' + 1 := ⟨F - 1, by omega⟩
      rw [f_Mo_areThere_b6_eq, mo_g2 ha, Option.bind_some, mo_a2 ha hg, Option.bind_some, q1, if_pos (nI_le (by omega) (by omega)), List.take_of_length_le (by omega), f_Mo_areThere_b68_eq, if_pos (isZ_bI _)]
      rfl
    | succ d ih =>
      intro F k hF hk
      obtain ⟨F, rfl⟩ : ∃ F', F = F' + 1 := ⟨F - 1, by omega⟩
      have hmem : (gs g).getD k 0 ∈ gs g := mem_getD.mpr ⟨k, by omega, rfl⟩
      have i1 := ih F (k + 1) (by omega) (by omega)
      rw [all1 _ (by omega)] at i1
      rw [f_Mo_areThere_b6_eq, mo_g2 ha, Option.bind_some, mo_a2 ha hg, Option.bind_some, q1, if_neg (nI_ge (by omega) (by omega))]
      cases e : ((gs g).take k).all (fun n => decide (lst (gs g) n ≠ j) || decide (ren (ru (gs g) u) n ∈ gs i))
      · rw [if_pos (show bI false = 0 from rfl), f_Mo_areThere_b68_eq, if_pos (isZ_bI _)]
        have : arT (gs g) (gs i) u j = false := by
          unfold arT
          cases e2 : (gs g).all (fun n => decide (lst (gs g) n ≠ j) || decide (ren (ru (gs g) u) n ∈ gs i))
          · rfl
          · rw [List.all_eq_true] at e2
            have e3 : ((gs g).take k).all (fun n => decide (lst (gs g) n ≠ j) || decide (ren (ru (gs g) u) n ∈ gs i)) = true := List.all_eq_true.mpr fun n hn => e2 n (List.mem_of_mem_take hn)
            rw [e3] at e; cases e
        rw [this]
      · rw [e, Bool.true_and] at i1
        have l8 : lst (gs g) ((gs g).getD k 0) < 8 := by
          have a1 := ixT_le oP1 (st_s hmem)
          have a2 := ixT_le oP1 (st_o hmem)
          unfold lst
          have := Nat.max_le.mpr ⟨a1, a2⟩
          omega
        have mt := (m1_tab _ l8 j hj).2
        rw [if_neg (show ¬ bI true = 0 by decide), cI_of (mo_is ha) (mo_numberOf ha hg (by omega)), q3 k (by omega), cI_of (mo_is ha) (mo_lastNode hG ha hN oP1 hmem)]
        by_cases hq : lst (gs g) ((gs g).getD k 0) = j
        · rw [decide_eq_false (fun x => x hq), Bool.false_or] at i1
          have hn20 := (ren_ok2 (u := u) oP1 hmem (Nat.le_of_eq hq) h46).lt
          rw [if_pos (mt.mpr hq), cI_of (mo_is ha) (mo_imageOf2 hG ha hN hU oP1 hmem (Nat.le_of_eq hq)), cI_of (mo_is ha) (mo_has (by omega) ha hR hi oT.sm hn20)]
          by_cases hm : ren (ru (gs g) u) ((gs g).getD k 0) ∈ gs i
          · rw [decide_eq_true hm] at i1
            rw [if_pos hm, if_neg (by decide), f_Mo_areThere_b55_eq, f_Mo_areThere_b60_eq, nI_1]; exact i1
          · rw [decide_eq_false hm] at i1
            rw [if_neg hm, if_pos rfl, f_Mo_areThere_b60_eq, nI_1]; exact i1
        · rw [decide_eq_true hq, Bool.true_or] at i1
          rw [if_neg (fun x => hq (mt.mp x)), f_Mo_areThere_b55_eq, f_Mo_areThere_b60_eq, nI_1]; exact i1
  rw [f_Mo_areThere_eq]
  exact lp (gs g).length G 0 (by omega) (by omega)
/-- isNew(level) -/
def nwT (u : Nat → Nat) (l : Nat) : Bool := (List.range l).all (fun k => decide (u k ≠ u l))
theorem nwT_c {v : Nat → Nat} {l : Nat} (h : ∀ k, k ≤ l → u k = v k) : nwT u l = nwT v l := by
  unfold nwT
  rw [Bool.eq_iff_iff, List.all_eq_true, List.all_eq_true]
  constructor
  · intro q k hk
    have h1 := q k hk
    have h2 := List.mem_range.mp hk
    rw [h k (by omega), h l (Nat.le_refl _)] at h1; exact h1
  · intro q k hk
    have h1 := q k hk
    have h2 := List.mem_range.mp hk
    rw [h k (by omega), h l (Nat.le_refl _)]; exact h1
theorem rall1 (p : Nat → Bool) (n : Nat) : (List.range (n + 1)).all p = ((List.range n).all p && p n) := by
  rw [List.range_succ, List.all_append]; simp
theorem mo_isNew {l : Nat} (hG : 100 ≤ G) (ha : moA h m A) (hl : l < 6) (hU : ∀ k, k ≤ l → R 11 k = nI (u k)) (h46 : ∀ k, k ≤ l → u k < 2 ^ 20) : f_Mo_isNew G m (nI l) (moH h m A S R) = some (some (.int (bI (nwT u l))), moH h m A S R) := by
  have lp : ∀ (d F k : Nat), d < F → k + d = l → f_Mo_isNew_b4 G F m (nI l) (bI ((List.range k).all (fun k => decide (u k ≠ u l)))) (nI k) (moH h m A S R) = some (some (.int (bI (nwT u l))), moH h m A S R) := by
    intro d
    induction d with
    | zero =>
      intro F k hF hk
      obtain ⟨F, rfl⟩ : ∃ F', F = F' + 1 := ⟨F - 1, by omega⟩
      have : k = l := by omega
      subst this
      rw [f_Mo_isNew_b4_eq, if_pos (nI_le (by omega) (by omega)), if_pos (isZ_bI _)]; rfl
    | succ d ih =>
      intro F k hF hk
      obtain ⟨F, rfl⟩ : ∃ F', F = F' + 1 := ⟨F - 1, by omega⟩
      have i1 := ih F (k + 1) (by omega) (by omega)
      rw [rall1] at i1
      rw [f_Mo_isNew_b4_eq, if_neg (nI_ge (by omega) (by omega))]
      cases e : (List.range k).all (fun k => decide (u k ≠ u l))
      · rw [e, Bool.false_and] at i1
        rw [if_pos (show bI false = 0 from rfl), f_Mo_isNew_b32_eq, f_Mo_isNew_b33_eq, nI_1]; exact i1
      · rw [e, Bool.true_and] at i1
        have a1 := h46 k (by omega)
        have a2 := h46 l (by omega)
        rw [if_neg (show ¬ bI true = 0 by decide), mo_g11 ha, Option.bind_some, mo_a11 ha (by omega), Option.bind_some, Option.bind_some, mo_a11 ha (by omega), Option.bind_some, hU k (by omega), hU l (Nat.le_refl _)]
        by_cases q : u k = u l
        · rw [decide_eq_false (fun x => x q)] at i1
          rw [if_pos (by rw [q]), f_Mo_isNew_b32_eq, f_Mo_isNew_b33_eq, nI_1]; exact i1
        · rw [decide_eq_true q] at i1
          rw [if_neg (fun x => q ((nI_eq (by omega) (by omega)).mp x)), f_Mo_isNew_b33_eq, nI_1]; exact i1
  rw [f_Mo_isNew_eq]
  exact lp l G 0 (by omega) (by omega)
end MSL
