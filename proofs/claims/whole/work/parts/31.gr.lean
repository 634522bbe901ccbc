/-- c numbers of g are less than n, and stand first -/
def Pl (g : List Nat) (n c : Nat) : Prop := c ≤ g.length ∧ (∀ i : Nat, i < c → g.getD i 0 < n) ∧ ∀ i : Nat, c ≤ i → i < g.length → n ≤ g.getD i 0
theorem Pl.ex {g : List Nat} (ha : Asc g) (n : Nat) : ∃ c, Pl g n c := by
  obtain ⟨k, hk, hl⟩ := pk_least (fun k => k = g.length ∨ (k < g.length ∧ n ≤ g.getD k 0)) ⟨g.length, Or.inl rfl⟩
  have hk2 : k ≤ g.length := by rcases hk with h | h <;> omega
  refine ⟨k, hk2, fun i hi => ?_, fun i h1 h2 => ?_⟩
  · have h := hl i hi
    rcases Nat.lt_or_ge (g.getD i 0) n with q | q
    · exact q
    · exact absurd (Or.inr ⟨by omega, q⟩) h
  · rcases hk with h | ⟨h3, h4⟩
    · omega
    · rcases Nat.lt_or_ge k i with q | q
      · exact Nat.le_of_lt (Nat.lt_of_le_of_lt h4 (ha k i q h2))
      · have : i = k := by omega
        rw [this]; exact h4
theorem pl_step {G F a q n c p s s2 : Nat} {h : pH} {g : List Nat} (hg : Gr h a q g) (hs : Sm g) (hn : n < 2 ^ 20) (hc : Pl g n c) (h0 : 0 < s) (hs16 : s ≤ 16) (hp : p ≤ 30) (hs2 : nI s >>> ((1 : Int32) &&& 31) = nI s2) :
    f_Gr_placeOf_b5 G (F + 1) a (nI n) (nI p) (nI s) h = f_Gr_placeOf_b5 G F a (nI n) (nI (if p + s ≤ c then p + s else p)) (nI s2) h := by
  have h5 := hg.2.2.2.2.1
  obtain ⟨c1, c2, c3⟩ := hc
  rw [f_Gr_placeOf_b5_eq, if_neg (nI_nle h0 (by omega)), hg.cnt, Option.bind_some, nI_add]
  by_cases hl : p + s ≤ g.length
  · obtain ⟨k, hk⟩ : ∃ k, p + s = k + 1 := ⟨p + s - 1, by omega⟩
    rw [if_neg (nI_nlt hl (by omega)), hg.row, Option.bind_some, hk, nI_pred, hg.at (by omega), Option.bind_some]
    have hsm := hs k (by omega)
    by_cases hkc : k < c
    · rw [if_neg (nI_ge (c2 k hkc) (by omega)), if_pos (by omega), f_Gr_placeOf_b39_eq, hs2]
    · rw [if_pos (nI_le (c3 k (by omega) (by omega)) (by omega)), if_neg (by omega), f_Gr_placeOf_b39_eq, hs2]
  · rw [if_pos (nI_lt (by omega) (by omega)), if_neg (by omega), f_Gr_placeOf_b39_eq, hs2]
/-- placeOf(n): how many are less -/
theorem gr_placeOf {G a q n c : Nat} {h : pH} {g : List Nat} (hG : 10 ≤ G) (hg : Gr h a q g) (hs : Sm g) (hn : n < 2 ^ 20) (hc : Pl g n c) : f_Gr_placeOf G a (nI n) h = some (some (.int (nI c)), h) := by
  obtain ⟨F, rfl⟩ : ∃ F, G = F + 6 := ⟨G - 6, by omega⟩
  have h5 := hg.2.2.2.2.1
  have c1 := hc.1
  rw [f_Gr_placeOf_eq]
  show f_Gr_placeOf_b5 (F + 6) (F + 5 + 1) a (nI n) (nI 0) (nI 16) h = _
  rw [pl_step hg hs hn hc (by omega) (by omega) (by omega) (show nI 16 >>> ((1 : Int32) &&& 31) = nI 8 by decide)]
  generalize hp1 : (if 0 + 16 ≤ c then 0 + 16 else 0) = p1
  have b1 : p1 ≤ c ∧ c < p1 + 16 := by split at hp1 <;> omega
  rw [pl_step hg hs hn hc (by omega) (by omega) (by omega) (show nI 8 >>> ((1 : Int32) &&& 31) = nI 4 by decide)]
  generalize hp2 : (if p1 + 8 ≤ c then p1 + 8 else p1) = p2
  have b2 : p2 ≤ c ∧ c < p2 + 8 := by split at hp2 <;> omega
  rw [pl_step hg hs hn hc (by omega) (by omega) (by omega) (show nI 4 >>> ((1 : Int32) &&& 31) = nI 2 by decide)]
  generalize hp3 : (if p2 + 4 ≤ c then p2 + 4 else p2) = p3
  have b3 : p3 ≤ c ∧ c < p3 + 4 := by split at hp3 <;> omega
  rw [pl_step hg hs hn hc (by omega) (by omega) (by omega) (show nI 2 >>> ((1 : Int32) &&& 31) = nI 1 by decide)]
  generalize hp4 : (if p3 + 2 ≤ c then p3 + 2 else p3) = p4
  have b4 : p4 ≤ c ∧ c < p4 + 2 := by split at hp4 <;> omega
  rw [pl_step hg hs hn hc (by omega) (by omega) (by omega) (show nI 1 >>> ((1 : Int32) &&& 31) = nI 0 by decide)]
  generalize hp5 : (if p4 + 1 ≤ c then p4 + 1 else p4) = p5
  have b5 : p5 = c := by split at hp5 <;> omega
  rw [b5, f_Gr_placeOf_b5_eq, if_pos (by decide)]
/-- n stands at c just if it is in g -/
theorem Pl.mem {g : List Nat} {n c : Nat} (ha : Asc g) (hc : Pl g n c) : n ∈ g ↔ c < g.length ∧ g.getD c 0 = n := by
  obtain ⟨c1, c2, c3⟩ := hc
  constructor
  · intro hm
    obtain ⟨i, hi, hv⟩ := List.getElem_of_mem hm
    have hd : g.getD i 0 = n := by rw [List.getD_eq_getElem?_getD, List.getElem?_eq_getElem hi]; exact hv
    have hci : c ≤ i := Nat.not_lt.mp fun q => by have := c2 i q; omega
    rcases Nat.lt_or_ge c i with q | q
    · have h1 := ha c i q hi
      have h2 := c3 c (Nat.le_refl _) (by omega)
      omega
    · have : c = i := by omega
      subst this
      exact ⟨hi, hd⟩
  · intro ⟨h1, h2⟩
    rw [List.getD_eq_getElem?_getD, List.getElem?_eq_getElem h1] at h2
    exact h2 ▸ List.getElem_mem h1
theorem nI_ne_m1 {n : Nat} (hn : n < 2 ^ 31) : ¬ (-1 : Int32) = nI n := fun q => by
  have h := congrArg Int32.toInt q
  rw [nI_toInt hn] at h
  have : (-1 : Int32).toInt = -1 := by decide
  omega
/-- has(n) -/
theorem gr_has {G a q n : Nat} {h : pH} {g : List Nat} (hG : 10 ≤ G) (hg : Gr h a q g) (ha : Asc g) (hs : Sm g) (hn : n < 2 ^ 20) : f_Gr_has G a (nI n) h = some (some (.int (if n ∈ g then 1 else 0)), h) := by
  obtain ⟨c, hc⟩ := Pl.ex ha n
  have h5 := hg.2.2.2.2.1
  have c1 := hc.1
  have hm := Pl.mem ha hc
  rw [f_Gr_has_eq, cI_of hg.is (gr_placeOf hG hg hs hn hc), cI_of hg.is (gr_at hg (by omega))]
  by_cases hcl : c < g.length
  · have hsm := hs c hcl
    rw [if_pos hcl]
    by_cases he : g.getD c 0 = n
    · rw [he, if_pos rfl, if_pos (hm.mpr ⟨hcl, he⟩)]
      rfl
    · rw [if_neg (fun q => he ((nI_eq (by omega) (by omega)).mp q)), if_neg (fun q => he (hm.mp q).2)]
      rfl
  · rw [if_neg hcl, if_neg (nI_ne_m1 (by omega)), if_neg (fun q => hcl (hm.mp q).1)]
    rfl
