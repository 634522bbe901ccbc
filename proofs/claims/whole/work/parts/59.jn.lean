/-! PURE: join, of the reference -/
/-- where the search for the k-th free node begins -/
def nxF (a : List Nat) (k : Nat) : Nat := if k = 0 then 40 else (frL a).getD (k - 1) 0 + 1
theorem nx_le {a : List Nat} {k : Nat} (hk : k < (frL a).length) : 40 ≤ nxF a k ∧ nxF a k ≤ (frL a).getD k 0 := by
  unfold nxF
  have h1 := frL_at hk
  split
  · omega
  · have h2 := frL_asc (a := a) (k - 1) k (by omega) hk
    have h3 := frL_at (a := a) (k := k - 1) (by omega)
    omega
theorem nx_st {a : List Nat} {k t : Nat} (hk : k < (frL a).length) (h1 : nxF a k ≤ t) (h2 : t < (frL a).getD k 0) : stb 2 a t = true := by
  have h0 := frL_at hk
  have h4 := nx_le hk
  refine Classical.byContradiction fun hn => ?_
  obtain ⟨j, j1, j2⟩ := mem_getD.mp (frL_mem.mpr ⟨⟨by omega, by omega⟩, Bool.eq_false_iff.mpr hn⟩ : t ∈ frL a)
  have hjk : j < k := by
    rcases Nat.lt_trichotomy j k with q | q | q
    · exact q
    · subst q; omega
    · have := frL_asc (a := a) k j q j1; omega
  unfold nxF at h1
  rw [if_neg (by omega)] at h1
  rcases Nat.lt_or_ge j (k - 1) with q | q
  · have := frL_asc (a := a) j (k - 1) q (by omega); omega
  · have : j = k - 1 := by omega
    subst this; omega
theorem jn_eq {a b : List Nat} (hA : Asc a) : addP (fun _ => true) id (addP (fun _ => true) (ren (jr a b)) [] b) a = jn a b := asc_ext (addP_asc _ _ (addP_asc _ _ asc_nil)) (addP_asc _ _ hA) fun m => by
  unfold jn
  rw [addP_mem, addP_mem, addP_mem]
  constructor
  · rintro ((h | h) | ⟨n, h1, h2, h3⟩)
    · exact absurd h List.not_mem_nil
    · exact Or.inr h
    · have h3 : n = m := h3
      subst h3; exact Or.inl h1
  · rintro (h | h)
    · exact Or.inr ⟨m, h, rfl, rfl⟩
    · exact Or.inl (Or.inr h)
section JNR
variable {G : Nat} {h : pH} {m : Nat} {A : Nat → Nat} {gs : Nat → List Nat}
/-- the facts of a added, then kept if they fit -/
theorem mo_join121 {a b t : Nat} (hG : 100 ≤ G) (ha : moA h m A) (ha6 : a < 6) (ht6 : t < 6) (hA : Asc (gs a)) (sA : Sm (gs a)) (hlb : (gs b).length ≤ 30) :
    ∀ (d F k : Nat) (S : Nat → Int32) (R : Nat → Nat → Int32), d < F → k + d = (gs a).length → moG R gs → moM S R (addP (fun _ => true) id (addP (fun _ => true) (ren (jr (gs a) (gs b))) [] (gs b)) ((gs a).take k)) →
      ∃ (S2 : Nat → Int32) (R2 : Nat → Nat → Int32), f_Mo_join_b121 G F m (nI a) (nI t) (nI k) (moH h m A S R) = some (some (.int (if (jn (gs a) (gs b)).length ≤ 30 then nI (jn (gs a) (gs b)).length else -1)), moH h m A S2 R2) ∧ moG R2 (if (jn (gs a) (gs b)).length ≤ 30 then upG gs t (jn (gs a) (gs b)) else gs) ∧ (∀ j, j ≠ 4 → S2 j = S j) ∧ ∀ j, j ≠ 1 → j ≠ 2 → j ≠ 3 → R2 j = R j := by
  have l1 := addP_len1 (p := fun _ => true) (r := ren (jr (gs a) (gs b))) (gs b) [] asc_nil
  rw [List.length_nil] at l1
  intro d
  induction d with
  | zero =>
    intro F k S R hF hk hR hM
    obtain ⟨F, rfl⟩ : ∃ F', F = F' + 1 := ⟨F - 1, by omega⟩
    obtain ⟨q1, q2, q3⟩ := hR a ha6
    have l2 := addP_len1 (p := fun _ => true) (r := id) (gs a) (addP (fun _ => true) (ren (jr (gs a) (gs b))) [] (gs b)) (addP_asc _ _ asc_nil)
    rw [List.take_of_length_le (by omega), jn_eq hA] at hM
    rw [jn_eq hA] at l2
    by_cases hf : (jn (gs a) (gs b)).length ≤ 30
    · obtain ⟨f3, f4, b1, b2⟩ := mo_keep (G := G) (g := t) hG ha hM hR hf ht6
      refine ⟨S, upR (upR R 1 f3) 2 f4, ?_, by rw [if_pos hf]; exact b2, fun _ _ => rfl, fun j h1 h2 _ => by simp [upR, h1, h2]⟩
      rw [f_Mo_join_b121_eq, mo_g2 ha, Option.bind_some, mo_a2 ha ha6, Option.bind_some, q1, if_pos (nI_le (by omega) (by omega)), mo_g4 ha, Option.bind_some, hM.1, if_pos (show nI (jn (gs a) (gs b)).length ≤ (30 : Int32) from nI_le (b := 30) hf (by omega)), cV_of (mo_is ha) b1, mo_g4 ha, Option.bind_some, hM.1, if_pos hf]
    · refine ⟨S, R, ?_, by rw [if_neg hf]; exact hR, fun _ _ => rfl, fun _ _ _ _ => rfl⟩
      rw [f_Mo_join_b121_eq, mo_g2 ha, Option.bind_some, mo_a2 ha ha6, Option.bind_some, q1, if_pos (nI_le (by omega) (by omega)), mo_g4 ha, Option.bind_some, hM.1, if_neg (show ¬ nI (jn (gs a) (gs b)).length ≤ (30 : Int32) from nI_ge (a := 30) (by omega) (by omega)), if_neg hf]
  | succ d ih =>
    intro F k S R hF hk hR hM
    obtain ⟨F, rfl⟩ : ∃ F', F = F' + 1 := ⟨F - 1, by omega⟩
    obtain ⟨q1, q2, q3⟩ := hR a ha6
    have hsm := sA k (by omega)
    have e1 := addP1 (p := fun _ => true) (r := id) (g := addP (fun _ => true) (ren (jr (gs a) (gs b))) [] (gs b)) (l := gs a) (k := k) (by omega)
    rw [if_pos rfl] at e1
    have l2 := addP_len1 (p := fun _ => true) (r := id) ((gs a).take k) (addP (fun _ => true) (ren (jr (gs a) (gs b))) [] (gs b)) (addP_asc _ _ asc_nil)
    rw [List.length_take] at l2
    obtain ⟨S2, f2, a1, a2, a3⟩ := mo_add (G := G) (n := (gs a).getD k 0) hG ha hM (by omega) hsm
    obtain ⟨S3, R3, b1, b2, b3, b4⟩ := ih F (k + 1) S2 (upR R 3 f2) (by omega) (by omega) (moG_3 hR) (by rw [e1]; exact a2)
    refine ⟨S3, R3, ?_, b2, fun j hj => (b3 j hj).trans (a3 j hj), fun j h1 h2 h3 => (b4 j h1 h2 h3).trans (if_neg h3)⟩
    rw [f_Mo_join_b121_eq, mo_g2 ha, Option.bind_some, mo_a2 ha ha6, Option.bind_some, q1, if_neg (nI_ge (by omega) (by omega)), cI_of (mo_is ha) (mo_numberOf ha ha6 (by omega)), q3 k (by omega), cV_of (mo_is ha) a1, nI_1, b1]
theorem mo_join76 {a k : Nat} {x2 x3 : Int32} {S : Nat → Int32} {R : Nat → Nat → Int32} (k67 : Nat → Int32 → Int32 → Int32 → Int32 → Int32 → pH → Option pR) (hG : 100 ≤ G) (ha : moA h m A) (hR : moG R gs) (ha6 : a < 6) (sA : Sm (gs a)) (hk : k < (frL (gs a)).length) :
    ∀ (d F n : Nat), d < F → n + d = (frL (gs a)).getD k 0 → nxF (gs a) k ≤ n → f_Mo_join_b76 G k67 F m (nI a) x2 x3 (nI n) (nI k) (moH h m A S R) = k67 m (nI a) x2 x3 (nI (nxF (gs a) (k + 1))) (nI (k + 1)) (moH h m A S (upR R 11 (upd (R 11) k (nI ((frL (gs a)).getD k 0))))) := by
  have h0 := frL_at hk
  have lF := frL_len (a := gs a)
  have e1 : nxF (gs a) (k + 1) = (frL (gs a)).getD k 0 + 1 := by unfold nxF; rw [if_neg (by omega)]; rfl
  intro d
  induction d with
  | zero =>
    intro F n hF hd hn
    obtain ⟨F, rfl⟩ : ∃ F', F = F' + 1 := ⟨F - 1, by omega⟩
    have : n = (frL (gs a)).getD k 0 := by omega
    subst this
    rw [f_Mo_join_b76_eq, cI_of (mo_is ha) (mo_stands2 hG ha hR ha6 sA (by omega)), h0.2, if_pos (show bI false = 0 from rfl), mo_g11 ha, Option.bind_some, mo_s11 ha (by omega), Option.bind_some, nI_1, nI_1, e1]
  | succ d ih =>
    intro F n hF hd hn
    obtain ⟨F, rfl⟩ : ∃ F', F = F' + 1 := ⟨F - 1, by omega⟩
    rw [f_Mo_join_b76_eq, cI_of (mo_is ha) (mo_stands2 hG ha hR ha6 sA (by omega)), nx_st hk hn (by omega), if_neg (show ¬ bI true = 0 by decide), nI_1, ih F (n + 1) (by omega) (by omega) (by omega)]
theorem mo_join67 {a b t : Nat} (hG : 100 ≤ G) (ha : moA h m A) (ha6 : a < 6) (hb6 : b < 6) (ht6 : t < 6) (hA : Asc (gs a)) (oA : okL (gs a)) (oB : okL (gs b)) (hle : (ndL (gs b)).length ≤ (frL (gs a)).length) :
    ∀ (d F k : Nat) (S : Nat → Int32) (R : Nat → Nat → Int32), d < F → k + d = (ndL (gs b)).length → moG R gs → moN S R (ndL (gs b)) → (∀ j, j < k → R 11 j = nI ((frL (gs a)).getD j 0)) →
      ∃ (S2 : Nat → Int32) (R2 : Nat → Nat → Int32), f_Mo_join_b67 G F m (nI a) (nI b) (nI t) (nI (nxF (gs a) k)) (nI k) (moH h m A S R) = some (some (.int (if (jn (gs a) (gs b)).length ≤ 30 then nI (jn (gs a) (gs b)).length else -1)), moH h m A S2 R2) ∧ moG R2 (if (jn (gs a) (gs b)).length ≤ 30 then upG gs t (jn (gs a) (gs b)) else gs) ∧ (∀ j, j ≠ 4 → S2 j = S j) ∧ ∀ j, j ≠ 1 → j ≠ 2 → j ≠ 3 → j ≠ 11 → R2 j = R j := by
  have l6 := ndL_len (g := gs b)
  intro d
  induction d with
  | zero =>
    intro F k S R hF hk hR hN hP
    obtain ⟨F, rfl⟩ : ∃ F', F = F' + 1 := ⟨F - 1, by omega⟩
    have hP2 : moP R (ndL (gs b)) (jr (gs a) (gs b)) (ndL (gs b)).length := fun j hj => by
      rw [hP j (by omega), jr_at hj]
    have hk2 : k = (ndL (gs b)).length := by omega
    obtain ⟨S2, f2, b1, b2, b3⟩ := mo_imageSize (G := G) (ρ := jr (gs a) (gs b)) hG ha hR hb6 hN hP2 oB jr_tot
    have q2 := (hR a ha6).2.1
    obtain ⟨S3, R3, c1, c2, c3, c4⟩ := mo_join121 (G := G) (gs := gs) (a := a) (b := b) (t := t) hG ha ha6 ht6 hA oA.sm (hR b hb6).2.1 (gs a).length G 0 S2 (upR R 3 f2) (by omega) (by omega) (moG_3 hR) b2
    refine ⟨S3, R3, ?_, c2, fun j hj => (c3 j hj).trans (b3 j hj), fun j h1 h2 h3 _ => (c4 j h1 h2 h3).trans (upR_n h3)⟩
    rw [f_Mo_join_b67_eq, mo_g7 ha, Option.bind_some, hN.1, if_pos (nI_le (by omega) (by omega)), cI_of (mo_is ha) b1]
    exact c1
  | succ d ih =>
    intro F k S R hF hk hR hN hP
    obtain ⟨F, rfl⟩ : ∃ F', F = F' + 1 := ⟨F - 1, by omega⟩
    have hkF : k < (frL (gs a)).length := by omega
    have h0 := frL_at hkF
    have h1 := nx_le hkF
    obtain ⟨S3, R3, c1, c2, c3, c4⟩ := ih F (k + 1) S (upR R 11 (upd (R 11) k (nI ((frL (gs a)).getD k 0)))) (by omega) (by omega) (moG_n hR rfl rfl) ⟨hN.1, hN.2⟩ (fun j hj => by
      rw [upR_s]
      simp only [upd]
      by_cases e : j = k
      · rw [if_pos e, e]
      · rw [if_neg e]; exact hP j (by omega))
    refine ⟨S3, R3, ?_, c2, c3, fun j h1 h2 h3 h4 => (c4 j h1 h2 h3 h4).trans (upR_n h4)⟩
    rw [f_Mo_join_b67_eq, mo_g7 ha, Option.bind_some, hN.1, if_neg (nI_ge (by omega) (by omega)), mo_join76 (f_Mo_join_b67 G F) hG ha hR ha6 oA.sm hkF ((frL (gs a)).getD k 0 - nxF (gs a) k) G (nxF (gs a) k) (by omega) (by omega) (Nat.le_refl _), c1]
variable {S : Nat → Int32} {R : Nat → Nat → Int32}
theorem mo_join_no {x1 x2 x3 : Int32} (ha : moA h m A) (hn : ¬ (okG x1 ∧ okG x2 ∧ okG x3)) : f_Mo_join G m x1 x2 x3 (moH h m A S R) = some (some (.int 0), moH h m A (upd S 0 1) R) := by
  have e : f_Mo_join_b26 G (f_Mo_join_b27 G) m x1 x2 x3 m (moH h m A S R) = some (some (.int 0), moH h m A (upd S 0 1) R) := by
    rw [f_Mo_join_b26_eq, f_Mo_join_b27_eq, cI_of (mo_is ha) (mo_there0 ha), if_pos rfl]
  rw [f_Mo_join_eq, cI_of rfl mo_isGraph]
  by_cases h1 : okG x1
  · rw [if_neg (by rw [if_pos h1]; decide), cI_of rfl mo_isGraph]
    by_cases h2 : okG x2
    · rw [if_neg (by rw [if_pos h2]; decide), cI_of rfl mo_isGraph, if_pos (by rw [if_neg (fun q => hn ⟨h1, h2, q⟩)]), e]
    · rw [if_pos (by rw [if_neg h2]), e]
  · rw [if_pos (by rw [if_neg h1]), e]
theorem mo_join {a b t : Nat} (hG : 100 ≤ G) (ha : moA h m A) (hR : moG R gs) (ha6 : a < 6) (hb6 : b < 6) (ht6 : t < 6) (hA : Asc (gs a)) (oA : okL (gs a)) (oB : okL (gs b)) :
    ∃ (S2 : Nat → Int32) (R2 : Nat → Nat → Int32), f_Mo_join G m (nI a) (nI b) (nI t) (moH h m A S R) = some (some (.int (if jnOk (gs a) (gs b) = true then nI (jn (gs a) (gs b)).length else -1)), moH h m A S2 R2) ∧ moG R2 (if jnOk (gs a) (gs b) = true then upG gs t (jn (gs a) (gs b)) else gs) ∧ S2 0 = 0 ∧ (∀ j, j ≠ 0 → j ≠ 4 → j ≠ 7 → j ≠ 9 → S2 j = S j) ∧ ∀ j, j ≠ 1 → j ≠ 2 → j ≠ 3 → j ≠ 6 → j ≠ 8 → j ≠ 11 → R2 j = R j := by
  have fa := fr_nd (a := gs a)
  have l6 := ndL_len (g := gs b)
  have st : f_Mo_join G m (nI a) (nI b) (nI t) (moH h m A S R) = if nI (ndL (gs a)).length + nI (ndL (gs b)).length ≤ (6 : Int32) then (cV (oC (moH h m A (upd S 0 0) R) m 4) (f_Mo_prepare G m (nI b) (nI b) (0 : Int32) (moH h m A (upd S 0 0) R)) fun h25 => (f_Mo_join_b67 G G) m (nI a) (nI b) (nI t) (40 : Int32) (0 : Int32) h25) else (some (some (.int (-1 : Int32)), moH h m A (upd S 0 0) R)) := by
    rw [f_Mo_join_eq, cI_of rfl mo_isGraph, if_neg (by rw [if_pos (okG_of ha6)]; decide), cI_of rfl mo_isGraph, if_neg (by rw [if_pos (okG_of hb6)]; decide), cI_of rfl mo_isGraph, if_neg (by rw [if_pos (okG_of ht6)]; decide), f_Mo_join_b27_eq, cI_of (mo_is ha) (mo_there1 ha), if_neg (by decide), cI_of (mo_is ha) (mo_nodesOf hG ha hR ha6 oA.sm), cI_of (mo_is ha) (mo_nodesOf hG ha hR hb6 oB.sm), ndL_c, ndL_c]
  rw [nI_add] at st
  unfold jnOk
  by_cases hk : (ndL (gs b)).length ≤ (frL (gs a)).length
  · rw [decide_eq_true hk, Bool.true_and]
    obtain ⟨S2, R2, b1, b2, b3, b4, b5⟩ := mo_prepare (G := G) (w := 0) (S := upd S 0 0) hG ha hR hb6 hb6 oB.sm oB.sm
    obtain ⟨S3, R3, c1, c2, c3, c4⟩ := mo_join67 (G := G) (gs := gs) (t := t) hG ha ha6 hb6 ht6 hA oA oB hk (ndL (gs b)).length G 0 S2 R2 (by omega) (by omega) (moG_n hR (b5 1 (by decide) (by decide)) (b5 2 (by decide) (by decide))) b2 (fun j hj => absurd hj (by omega))
    refine ⟨S3, R3, ?_, ?_, by rw [c3 0 (by decide), b4 0 (by decide) (by decide)]; simp [upd], fun j h0 h1 h2 h3 => by rw [c3 j h1, b4 j h2 h3]; simp [upd, h0], fun j h1 h2 h3 h4 h5 h6 => by rw [c4 j h1 h2 h3 h6, b5 j h4 h5]⟩
    · rw [st, if_pos (show nI ((ndL (gs a)).length + (ndL (gs b)).length) ≤ (6 : Int32) from nI_le (b := 6) (by omega) (by omega)), cV_of (mo_is ha) b1]
      refine c1.trans ?_
      by_cases hf : (jn (gs a) (gs b)).length ≤ 30
      · rw [if_pos hf, if_pos (decide_eq_true hf)]
      · rw [if_neg hf, if_neg (by rw [decide_eq_true_eq]; exact hf)]
    · by_cases hf : (jn (gs a) (gs b)).length ≤ 30
      · rw [if_pos hf] at c2; rw [if_pos (decide_eq_true hf)]; exact c2
      · rw [if_neg hf] at c2; rw [if_neg (by rw [decide_eq_true_eq]; exact hf)]; exact c2
  · rw [decide_eq_false hk, Bool.false_and]
    refine ⟨upd S 0 0, R, ?_, by rw [if_neg (by decide)]; exact hR, by simp [upd], fun j h0 _ _ _ => by simp [upd, h0], fun _ _ _ _ _ _ _ => rfl⟩
    rw [st, if_neg (show ¬ nI ((ndL (gs a)).length + (ndL (gs b)).length) ≤ (6 : Int32) from nI_ge (a := 6) (by omega) (by omega)), if_neg (by decide)]
end JNR
