/-! PURE: merge and clash, of the reference -/
/-- the reference's clashes -/
def moK (S : Nat → Int32) (R : Nat → Nat → Int32) (L : List Nat) : Prop := S 12 = nI L.length ∧ (∀ i : Nat, i < L.length → R 13 i = nI (L.getD i 0 / 2)) ∧ ∀ i : Nat, i < L.length → R 14 i = nI (L.getD i 0 % 2)
theorem getD_snoc {l : List Nat} {n i : Nat} : (l ++ [n]).getD i 0 = if i < l.length then l.getD i 0 else if i = l.length then n else 0 := by
  rw [List.getD_eq_getElem?_getD]
  split
  · rename_i h; rw [List.getElem?_append_left h, ← List.getD_eq_getElem?_getD]
  · rename_i h
    rw [List.getElem?_append_right (by omega)]
    split
    · rename_i h2; rw [h2]; simp
    · rename_i h2
      rw [List.getElem?_eq_none (by simp; omega)]; rfl
section MRR
variable {G : Nat} {h : pH} {m : Nat} {A : Nat → Nat} {gs : Nat → List Nat} {S : Nat → Int32} {R : Nat → Nat → Int32}
theorem mo_note {L : List Nat} {t s : Nat} (ha : moA h m A) (hK : moK S R L) (hl : L.length < 92) (hs : s < 2) :
    ∃ (S2 : Nat → Int32) (R2 : Nat → Nat → Int32), f_Mo_note G m (nI t) (nI s) (moH h m A S R) = some (none, moH h m A S2 R2) ∧ moK S2 R2 (L ++ [2 * t + s]) ∧ (∀ j, j ≠ 12 → S2 j = S j) ∧ ∀ j, j ≠ 13 → j ≠ 14 → R2 j = R j := by
  obtain ⟨k1, k2, k3⟩ := hK
  refine ⟨upd S 12 (nI (L.length + 1)), upR (upR R 13 (upd (R 13) L.length (nI t))) 14 (upd (R 14) L.length (nI s)), ?_, ⟨by simp [upd], fun i hi => ?_, fun i hi => ?_⟩, fun j hj => by simp [upd, hj], fun j h1 h2 => by simp [upR, h1, h2]⟩
  · rw [f_Mo_note_eq, mo_g13 ha, Option.bind_some, mo_g12 ha, Option.bind_some, k1, mo_s13 ha hl, Option.bind_some, mo_g14 ha, Option.bind_some, mo_g12 ha, Option.bind_some, k1, mo_s14 ha hl, Option.bind_some, mo_g12 ha, Option.bind_some, k1, nI_1, mo_p12 ha, Option.bind_some]
    rfl
  · rw [List.length_append, List.length_singleton] at hi
    show upd (R 13) L.length (nI t) i = _
    simp only [upd]
    rw [getD_snoc]
    by_cases e : i = L.length
    · rw [if_pos e, if_neg (by omega), if_pos e, show (2 * t + s) / 2 = t by omega]
    · rw [if_neg e, if_pos (by omega)]; exact k2 i (by omega)
  · rw [List.length_append, List.length_singleton] at hi
    show upd (R 14) L.length (nI s) i = _
    simp only [upd]
    rw [getD_snoc]
    by_cases e : i = L.length
    · rw [if_pos e, if_neg (by omega), if_pos e, show (2 * t + s) % 2 = s by omega]
    · rw [if_neg e, if_pos (by omega)]; exact k3 i (by omega)
theorem mo_note0 {L : List Nat} {t : Nat} (ha : moA h m A) (hK : moK S R L) (hl : L.length < 92) :
    ∃ (S2 : Nat → Int32) (R2 : Nat → Nat → Int32), f_Mo_note G m (nI t) 0 (moH h m A S R) = some (none, moH h m A S2 R2) ∧ moK S2 R2 (L ++ [2 * t]) ∧ (∀ j, j ≠ 12 → S2 j = S j) ∧ ∀ j, j ≠ 13 → j ≠ 14 → R2 j = R j := mo_note (s := 0) ha hK hl (by omega)
theorem mo_note1 {L : List Nat} {t : Nat} (ha : moA h m A) (hK : moK S R L) (hl : L.length < 92) :
    ∃ (S2 : Nat → Int32) (R2 : Nat → Nat → Int32), f_Mo_note G m (nI t) 1 (moH h m A S R) = some (none, moH h m A S2 R2) ∧ moK S2 R2 (L ++ [2 * t + 1]) ∧ (∀ j, j ≠ 12 → S2 j = S j) ∧ ∀ j, j ≠ 13 → j ≠ 14 → R2 j = R j := mo_note (s := 1) ha hK hl (by omega)
theorem mo_doClash {i a b t : Nat} (hG : 100 ≤ G) (ha : moA h m A) (hR : moG R gs) (hi : i < 6) (ha6 : a < 6) (hb6 : b < 6) (sI : Sm (gs i)) (sA : Sm (gs a)) (sB : Sm (gs b)) (ht : t < 46) : f_Mo_doClash G m (nI i) (nI a) (nI b) (nI t) (moH h m A S R) = some (some (.int (bI (clB (gs i) (gs a) (gs b) t))), moH h m A S R) := by
  obtain ⟨q1, q2, q3⟩ := hR b hb6
  have lp : ∀ (d F k : Nat), d < F → k + d = (gs b).length → f_Mo_doClash_b30 G F m (nI i) (nI b) (nI t) (bI (((gs b).take k).any (fun n => !decide (n ∈ gs i) && (decide (n / 4096 = t) || decide (n % 64 = t))))) (nI k) (moH h m A S R) = some (some (.int (bI ((gs b).any (fun n => !decide (n ∈ gs i) && (decide (n / 4096 = t) || decide (n % 64 = t)))))), moH h m A S R) := by
    intro d
    induction d with
    | zero =>
      intro F k hF hk
      obtain ⟨F, rfl⟩ : ∃ F', F = F' + 1 := ⟨F - 1, by omega⟩
      rw [f_Mo_doClash_b30_eq, mo_g2 ha, Option.bind_some, mo_a2 ha hb6, Option.bind_some, q1, if_pos (nI_le (by omega) (by omega)), if_pos (isZ_bI _), List.take_of_length_le (by omega)]
    | succ d ih =>
      intro F k hF hk
      obtain ⟨F, rfl⟩ : ∃ F', F = F' + 1 := ⟨F - 1, by omega⟩
      have hsm := sB k (by omega)
      have i1 := ih F (k + 1) (by omega) (by omega)
      rw [any1 _ (by omega)] at i1
      rw [f_Mo_doClash_b30_eq, mo_g2 ha, Option.bind_some, mo_a2 ha hb6, Option.bind_some, q1, if_neg (nI_ge (by omega) (by omega)), cI_of (mo_is ha) (mo_numberOf ha hb6 (by omega)), q3 k (by omega)]
      cases e : ((gs b).take k).any (fun n => !decide (n ∈ gs i) && (decide (n / 4096 = t) || decide (n % 64 = t)))
      · rw [e, Bool.false_or] at i1
        rw [if_pos (show bI false = 0 from rfl), cI_of (mo_is ha) (mo_has (by omega) ha hR hi sI hsm)]
        by_cases hm : (gs b).getD k 0 ∈ gs i
        · rw [decide_eq_true hm, Bool.not_true, Bool.false_and] at i1
          rw [if_pos hm, if_neg (by decide), f_Mo_doClash_b89_eq, f_Mo_doClash_b90_eq, nI_1]; exact i1
        · rw [decide_eq_false hm, Bool.not_false, Bool.true_and] at i1
          rw [if_neg hm, if_pos rfl, cI_of rfl (mo_subj (by omega))]
          by_cases h2 : (gs b).getD k 0 / 4096 = t
          · rw [decide_eq_true h2, Bool.true_or] at i1
            rw [if_pos (by rw [h2]), f_Mo_doClash_b85_eq, f_Mo_doClash_b90_eq, nI_1]; exact i1
          · rw [decide_eq_false h2, Bool.false_or] at i1
            rw [if_neg (fun q => h2 ((nI_eq (by omega) (by omega)).mp q)), cI_of rfl (mo_obj (by omega))]
            by_cases h3 : (gs b).getD k 0 % 64 = t
            · rw [decide_eq_true h3] at i1
              rw [if_pos (by rw [h3]), f_Mo_doClash_b85_eq, f_Mo_doClash_b90_eq, nI_1]; exact i1
            · rw [decide_eq_false h3] at i1
              rw [if_neg (fun q => h3 ((nI_eq (by omega) (by omega)).mp q)), f_Mo_doClash_b89_eq, f_Mo_doClash_b90_eq, nI_1]; exact i1
      · rw [e, Bool.true_or] at i1
        rw [if_neg (show ¬ bI true = 0 by decide), f_Mo_doClash_b85_eq, f_Mo_doClash_b90_eq, nI_1]
        exact i1
  unfold clB
  rw [f_Mo_doClash_eq, cI_of (mo_is ha) (mo_stands0 hG ha hR hi sI (by omega))]
  cases e1 : stb 0 (gs i) t
  · rw [if_pos (show bI false = 0 from rfl), f_Mo_doClash_b22_eq, Bool.false_and, Bool.false_and]; rfl
  · rw [if_neg (show ¬ bI true = 0 by decide), cI_of (mo_is ha) (mo_stands0 hG ha hR ha6 sA (by omega))]
    cases e2 : stb 0 (gs a) t
    · rw [if_pos (show bI false = 0 from rfl), Bool.not_false, Bool.true_and, Bool.true_and]
      exact lp (gs b).length G 0 (by omega) (by omega)
    · rw [if_neg (show ¬ bI true = 0 by decide), f_Mo_doClash_b22_eq, Bool.not_true, Bool.and_false, Bool.false_and]; rfl
end MRR
section MRR2
variable {G : Nat} {h : pH} {m : Nat} {A : Nat → Nat} {gs : Nat → List Nat}
theorem moM_of {S S2 : Nat → Int32} {R R2 : Nat → Nat → Int32} {l : List Nat} (hM : moM S R l) (h1 : S2 4 = S 4) (h2 : R2 3 = R 3) : moM S2 R2 l := by
  obtain ⟨a1, a2, a3, a4⟩ := hM
  exact ⟨h1.trans a1, by rw [h2]; exact a2, a3, a4⟩
/-- the clashes noted, then kept -/
theorem mo_merge214 {i a b t : Nat} {M : List Nat} (hG : 100 ≤ G) (ha : moA h m A) (hi : i < 6) (ha6 : a < 6) (hb6 : b < 6) (ht6 : t < 6) (sI : Sm (gs i)) (sA : Sm (gs a)) (sB : Sm (gs b)) (hlen : M.length ≤ 30) :
    ∀ (d F k : Nat) (S : Nat → Int32) (R : Nat → Nat → Int32), d < F → k + d = 46 → moG R gs → moM S R M → moK S R ((List.range (2 * k)).filter (clC (gs i) (gs a) (gs b))) →
      ∃ (S2 : Nat → Int32) (R2 : Nat → Nat → Int32), f_Mo_merge_b214 G F m (nI i) (nI a) (nI b) (nI t) (nI k) (moH h m A S R) = some (some (.int (nI (clL (gs i) (gs a) (gs b)).length)), moH h m A S2 R2) ∧ moG R2 (upG gs t M) ∧ moK S2 R2 (clL (gs i) (gs a) (gs b)) ∧ (∀ j, j ≠ 12 → S2 j = S j) ∧ ∀ j, j ≠ 1 → j ≠ 2 → j ≠ 13 → j ≠ 14 → R2 j = R j := by
  intro d
  induction d with
  | zero =>
    intro F k S R hF hk hR hM hK
    obtain ⟨F, rfl⟩ : ∃ F', F = F' + 1 := ⟨F - 1, by omega⟩
    have : k = 46 := by omega
    subst this
    obtain ⟨f3, f4, b1, b2⟩ := mo_keep (G := G) (g := t) hG ha hM hR hlen ht6
    refine ⟨S, upR (upR R 1 f3) 2 f4, ?_, b2, hK, fun _ _ => rfl, fun j h1 h2 _ _ => by simp [upR, h1, h2]⟩
    rw [f_Mo_merge_b214_eq, if_pos (by decide), cV_of (mo_is ha) b1, mo_g12 ha, Option.bind_some, hK.1]
    rfl
  | succ d ih =>
    intro F k S R hF hk hR hM hK
    obtain ⟨F, rfl⟩ : ∃ F', F = F' + 1 := ⟨F - 1, by omega⟩
    have x1 := fl1 (clC (gs i) (gs a) (gs b)) (2 * k)
    have x2 := fl1 (clC (gs i) (gs a) (gs b)) (2 * k + 1)
    have y1 : clC (gs i) (gs a) (gs b) (2 * k) = clB (gs i) (gs a) (gs b) k := by
      unfold clC; rw [if_pos (by omega), show 2 * k / 2 = k by omega]
    have y2 : clC (gs i) (gs a) (gs b) (2 * k + 1) = clB (gs i) (gs b) (gs a) k := by
      unfold clC; rw [if_neg (by omega), show (2 * k + 1) / 2 = k by omega]
    rw [y1] at x1
    rw [y2] at x2
    have n1 := fl_len (clC (gs i) (gs a) (gs b)) (2 * k)
    have n2 := fl_len (clC (gs i) (gs a) (gs b)) (2 * k + 1)
    -- the second side
    have sec : ∀ (S : Nat → Int32) (R : Nat → Nat → Int32), moG R gs → moM S R M → moK S R ((List.range (2 * k + 1)).filter (clC (gs i) (gs a) (gs b))) →
        ∃ (S2 : Nat → Int32) (R2 : Nat → Nat → Int32), f_Mo_merge_b240 G (f_Mo_merge_b214 G F) m (nI i) (nI a) (nI b) (nI t) (nI k) (moH h m A S R) = some (some (.int (nI (clL (gs i) (gs a) (gs b)).length)), moH h m A S2 R2) ∧ moG R2 (upG gs t M) ∧ moK S2 R2 (clL (gs i) (gs a) (gs b)) ∧ (∀ j, j ≠ 12 → S2 j = S j) ∧ ∀ j, j ≠ 1 → j ≠ 2 → j ≠ 13 → j ≠ 14 → R2 j = R j := by
      intro S R hR hM hK
      rw [f_Mo_merge_b240_eq, cI_of (mo_is ha) (mo_doClash hG ha hR hi hb6 ha6 sI sB sA (by omega))]
      cases e : clB (gs i) (gs b) (gs a) k
      · rw [e, if_neg (by decide)] at x2
        rw [if_pos (show bI false = 0 from rfl), f_Mo_merge_b259_eq, nI_1]
        exact ih F (k + 1) S R (by omega) (by omega) hR hM (by rw [show 2 * (k + 1) = 2 * k + 1 + 1 by omega, x2]; exact hK)
      · rw [e, if_pos rfl] at x2
        obtain ⟨S2, R2, c1, c2, c3, c4⟩ := mo_note1 (G := G) (t := k) ha hK (by omega)
        obtain ⟨S3, R3, d1, d2, d3, d4, d5⟩ := ih F (k + 1) S2 R2 (by omega) (by omega) (moG_n hR (c4 1 (by decide) (by decide)) (c4 2 (by decide) (by decide))) (moM_of hM (c3 4 (by decide)) (c4 3 (by decide) (by decide))) (by rw [show 2 * (k + 1) = 2 * k + 1 + 1 by omega, x2]; exact c2)
        refine ⟨S3, R3, ?_, d2, d3, fun j hj => (d4 j hj).trans (c3 j hj), fun j h1 h2 h3 h4 => (d5 j h1 h2 h3 h4).trans (c4 j h3 h4)⟩
        rw [if_neg (show ¬ bI true = 0 by decide), cV_of (mo_is ha) c1, f_Mo_merge_b259_eq, nI_1, d1]
    rw [f_Mo_merge_b214_eq, if_neg (show ¬ (46 : Int32) ≤ nI k from nI_ge (b := 46) (by omega) (by omega)), cI_of (mo_is ha) (mo_doClash hG ha hR hi ha6 hb6 sI sA sB (by omega))]
    cases e : clB (gs i) (gs a) (gs b) k
    · rw [e, if_neg (by decide)] at x1
      rw [if_pos (show bI false = 0 from rfl)]
      exact sec S R hR hM (by rw [x1]; exact hK)
    · rw [e, if_pos rfl] at x1
      obtain ⟨S2, R2, c1, c2, c3, c4⟩ := mo_note0 (G := G) (t := k) ha hK (by omega)
      obtain ⟨S3, R3, d1, d2, d3, d4, d5⟩ := sec S2 R2 (moG_n hR (c4 1 (by decide) (by decide)) (c4 2 (by decide) (by decide))) (moM_of hM (c3 4 (by decide)) (c4 3 (by decide) (by decide))) (by rw [x1]; exact c2)
      refine ⟨S3, R3, ?_, d2, d3, fun j hj => (d4 j hj).trans (c3 j hj), fun j h1 h2 h3 h4 => (d5 j h1 h2 h3 h4).trans (c4 j h3 h4)⟩
      rw [if_neg (show ¬ bI true = 0 by decide), cV_of (mo_is ha) c1, d1]
/-- b's new facts -/
theorem mo_merge152 {i a b t : Nat} (hG : 100 ≤ G) (ha : moA h m A) (hi : i < 6) (ha6 : a < 6) (hb6 : b < 6) (ht6 : t < 6) (aA : Asc (gs a)) (sI : Sm (gs i)) (sA : Sm (gs a)) (sB : Sm (gs b)) :
    ∀ (d F k : Nat) (S : Nat → Int32) (R : Nat → Nat → Int32), d < F → k + d = (gs b).length → moG R gs → moM S R (addP (fun n => decide (n ∉ gs i)) id (mk2 (gs i) (gs a) (gs b)) ((gs b).take k)) →
      ∃ (S2 : Nat → Int32) (R2 : Nat → Nat → Int32), f_Mo_merge_b152 G F m (nI i) (nI a) (nI b) (nI t) (nI k) (moH h m A S R) = some (some (.int (if (mrg (gs i) (gs a) (gs b)).length ≤ 30 then nI (clL (gs i) (gs a) (gs b)).length else -1)), moH h m A S2 R2) ∧ (∀ j, j ≠ 4 → j ≠ 12 → S2 j = S j) ∧ (∀ j, j ≠ 1 → j ≠ 2 → j ≠ 3 → j ≠ 13 → j ≠ 14 → R2 j = R j) ∧ (if (mrg (gs i) (gs a) (gs b)).length ≤ 30 then moG R2 (upG gs t (mrg (gs i) (gs a) (gs b))) ∧ moK S2 R2 (clL (gs i) (gs a) (gs b)) else moG R2 gs ∧ S2 12 = S 12 ∧ R2 13 = R 13 ∧ R2 14 = R 14) := by
  intro d
  induction d with
  | zero =>
    intro F k S R hF hk hR hM
    obtain ⟨F, rfl⟩ : ∃ F', F = F' + 1 := ⟨F - 1, by omega⟩
    obtain ⟨q1, q2, q3⟩ := hR b hb6
    have l60 := mrg_len (bs := gs i) (b := gs b) aA
    have la := (hR a ha6).2.1
    rw [List.take_of_length_le (by omega)] at hM
    have hM : moM S R (mrg (gs i) (gs a) (gs b)) := hM
    by_cases hf : (mrg (gs i) (gs a) (gs b)).length ≤ 30
    · obtain ⟨S2, R2, b1, b2, b3, b4, b5⟩ := mo_merge214 (G := G) (gs := gs) (i := i) (a := a) (b := b) (t := t) hG ha hi ha6 hb6 ht6 sI sA sB hf 46 G 0 (upd S 12 0) R (by omega) (by omega) hR (moM_of hM rfl rfl) ⟨by simp [upd]; rfl, fun i hi => by simp at hi, fun i hi => by simp at hi⟩
      refine ⟨S2, R2, ?_, fun j h1 h2 => by rw [b4 j h2]; simp [upd, h2], fun j h1 h2 h3 h4 h5 => b5 j h1 h2 h4 h5, by rw [if_pos hf]; exact ⟨b2, b3⟩⟩
      rw [f_Mo_merge_b152_eq, mo_g2 ha, Option.bind_some, mo_a2 ha hb6, Option.bind_some, q1, if_pos (nI_le (by omega) (by omega)), mo_g4 ha, Option.bind_some, hM.1, if_pos (show nI (mrg (gs i) (gs a) (gs b)).length ≤ (30 : Int32) from nI_le (b := 30) hf (by omega)), mo_p12 ha, Option.bind_some, if_pos hf]
      exact b1
    · refine ⟨S, R, ?_, fun _ _ _ => rfl, fun _ _ _ _ _ _ => rfl, by rw [if_neg hf]; exact ⟨hR, rfl, rfl, rfl⟩⟩
      rw [f_Mo_merge_b152_eq, mo_g2 ha, Option.bind_some, mo_a2 ha hb6, Option.bind_some, q1, if_pos (nI_le (by omega) (by omega)), mo_g4 ha, Option.bind_some, hM.1, if_neg (show ¬ nI (mrg (gs i) (gs a) (gs b)).length ≤ (30 : Int32) from nI_ge (a := 30) (by omega) (by omega)), if_neg hf]
  | succ d ih =>
    intro F k S R hF hk hR hM
    obtain ⟨F, rfl⟩ : ∃ F', F = F' + 1 := ⟨F - 1, by omega⟩
    obtain ⟨q1, q2, q3⟩ := hR b hb6
    have l60 := mrg_len (bs := gs i) (b := gs b) aA
    have la := (hR a ha6).2.1
    have hsm := sB k (by omega)
    have e1 := addP1 (p := fun n => decide (n ∉ gs i)) (r := id) (g := mk2 (gs i) (gs a) (gs b)) (l := gs b) (k := k) (by omega)
    have tk : (addP (fun n => decide (n ∉ gs i)) id (mk2 (gs i) (gs a) (gs b)) ((gs b).take k)).length ≤ (mrg (gs i) (gs a) (gs b)).length := addP_take k mk2_asc
    by_cases hm : (gs b).getD k 0 ∈ gs i
    · rw [if_neg (show ¬ decide ((gs b).getD k 0 ∉ gs i) = true from fun q => of_decide_eq_true q hm)] at e1
      obtain ⟨S2, R2, b1, b2, b3, b4⟩ := ih F (k + 1) S R (by omega) (by omega) hR (by rw [e1]; exact hM)
      refine ⟨S2, R2, ?_, b2, b3, b4⟩
      rw [f_Mo_merge_b152_eq, mo_g2 ha, Option.bind_some, mo_a2 ha hb6, Option.bind_some, q1, if_neg (nI_ge (by omega) (by omega)), cI_of (mo_is ha) (mo_numberOf ha hb6 (by omega)), q3 k (by omega), cI_of (mo_is ha) (mo_has (by omega) ha hR hi sI hsm), if_pos hm, if_neg (by decide), f_Mo_merge_b189_eq, nI_1, b1]
    · rw [if_pos (decide_eq_true hm)] at e1
      obtain ⟨S2, f2, a1, a2, a3⟩ := mo_add (G := G) (n := (gs b).getD k 0) hG ha hM (by omega) hsm
      obtain ⟨S3, R3, b1, b2, b3, b4⟩ := ih F (k + 1) S2 (upR R 3 f2) (by omega) (by omega) (moG_3 hR) (by rw [e1]; exact a2)
      refine ⟨S3, R3, ?_, fun j h1 h2 => (b2 j h1 h2).trans (a3 j h1), fun j h1 h2 h3 h4 h5 => (b3 j h1 h2 h3 h4 h5).trans (if_neg h3), ?_⟩
      · rw [f_Mo_merge_b152_eq, mo_g2 ha, Option.bind_some, mo_a2 ha hb6, Option.bind_some, q1, if_neg (nI_ge (by omega) (by omega)), cI_of (mo_is ha) (mo_numberOf ha hb6 (by omega)), q3 k (by omega), cI_of (mo_is ha) (mo_has (by omega) ha hR hi sI hsm), if_neg hm, if_pos rfl, cI_of (mo_is ha) (mo_numberOf ha hb6 (by omega)), q3 k (by omega), cV_of (mo_is ha) a1, f_Mo_merge_b189_eq, nI_1, b1]
      · by_cases hf : (mrg (gs i) (gs a) (gs b)).length ≤ 30
        · rw [if_pos hf] at b4 ⊢; exact b4
        · rw [if_neg hf] at b4 ⊢; exact ⟨b4.1, b4.2.1.trans (a3 12 (by decide)), b4.2.2.1, b4.2.2.2⟩
/-- a's new facts -/
theorem mo_merge106 {i a b t : Nat} (hG : 100 ≤ G) (ha : moA h m A) (hi : i < 6) (ha6 : a < 6) (hb6 : b < 6) (ht6 : t < 6) (aA : Asc (gs a)) (sI : Sm (gs i)) (sA : Sm (gs a)) (sB : Sm (gs b)) :
    ∀ (d F k : Nat) (S : Nat → Int32) (R : Nat → Nat → Int32), d < F → k + d = (gs a).length → moG R gs → moM S R (addP (fun n => decide (n ∉ gs i)) id (mk1 (gs i) (gs a) (gs b)) ((gs a).take k)) →
      ∃ (S2 : Nat → Int32) (R2 : Nat → Nat → Int32), f_Mo_merge_b106 G F m (nI i) (nI a) (nI b) (nI t) (nI k) (moH h m A S R) = some (some (.int (if (mrg (gs i) (gs a) (gs b)).length ≤ 30 then nI (clL (gs i) (gs a) (gs b)).length else -1)), moH h m A S2 R2) ∧ (∀ j, j ≠ 4 → j ≠ 12 → S2 j = S j) ∧ (∀ j, j ≠ 1 → j ≠ 2 → j ≠ 3 → j ≠ 13 → j ≠ 14 → R2 j = R j) ∧ (if (mrg (gs i) (gs a) (gs b)).length ≤ 30 then moG R2 (upG gs t (mrg (gs i) (gs a) (gs b))) ∧ moK S2 R2 (clL (gs i) (gs a) (gs b)) else moG R2 gs ∧ S2 12 = S 12 ∧ R2 13 = R 13 ∧ R2 14 = R 14) := by
  intro d
  induction d with
  | zero =>
    intro F k S R hF hk hR hM
    obtain ⟨F, rfl⟩ : ∃ F', F = F' + 1 := ⟨F - 1, by omega⟩
    obtain ⟨q1, q2, q3⟩ := hR a ha6
    obtain ⟨p1, p2, p3⟩ := hR b hb6
    rw [List.take_of_length_le (by omega)] at hM
    obtain ⟨S2, R2, b1, b2, b3, b4⟩ := mo_merge152 (G := G) (gs := gs) (i := i) (a := a) (b := b) (t := t) hG ha hi ha6 hb6 ht6 aA sI sA sB (gs b).length G 0 S R (by omega) (by omega) hR hM
    refine ⟨S2, R2, ?_, b2, b3, b4⟩
    rw [f_Mo_merge_b106_eq, mo_g2 ha, Option.bind_some, mo_a2 ha ha6, Option.bind_some, q1, if_pos (nI_le (by omega) (by omega))]
    exact b1
  | succ d ih =>
    intro F k S R hF hk hR hM
    obtain ⟨F, rfl⟩ : ∃ F', F = F' + 1 := ⟨F - 1, by omega⟩
    obtain ⟨q1, q2, q3⟩ := hR a ha6
    have hsm := sA k (by omega)
    have e1 := addP1 (p := fun n => decide (n ∉ gs i)) (r := id) (g := mk1 (gs i) (gs a) (gs b)) (l := gs a) (k := k) (by omega)
    have tk : (addP (fun n => decide (n ∉ gs i)) id (mk1 (gs i) (gs a) (gs b)) ((gs a).take k)).length ≤ (mk2 (gs i) (gs a) (gs b)).length := addP_take k mk1_asc
    have tl := mk2_len (bs := gs i) (b := gs b) aA
    by_cases hm : (gs a).getD k 0 ∈ gs i
    · rw [if_neg (show ¬ decide ((gs a).getD k 0 ∉ gs i) = true from fun q => of_decide_eq_true q hm)] at e1
      obtain ⟨S2, R2, b1, b2, b3, b4⟩ := ih F (k + 1) S R (by omega) (by omega) hR (by rw [e1]; exact hM)
      refine ⟨S2, R2, ?_, b2, b3, b4⟩
      rw [f_Mo_merge_b106_eq, mo_g2 ha, Option.bind_some, mo_a2 ha ha6, Option.bind_some, q1, if_neg (nI_ge (by omega) (by omega)), cI_of (mo_is ha) (mo_numberOf ha ha6 (by omega)), q3 k (by omega), cI_of (mo_is ha) (mo_has (by omega) ha hR hi sI hsm), if_pos hm, if_neg (by decide), f_Mo_merge_b143_eq, nI_1, b1]
    · rw [if_pos (decide_eq_true hm)] at e1
      obtain ⟨S2, f2, a1, a2, a3⟩ := mo_add (G := G) (n := (gs a).getD k 0) hG ha hM (by omega) hsm
      obtain ⟨S3, R3, b1, b2, b3, b4⟩ := ih F (k + 1) S2 (upR R 3 f2) (by omega) (by omega) (moG_3 hR) (by rw [e1]; exact a2)
      refine ⟨S3, R3, ?_, fun j h1 h2 => (b2 j h1 h2).trans (a3 j h1), fun j h1 h2 h3 h4 h5 => (b3 j h1 h2 h3 h4 h5).trans (if_neg h3), ?_⟩
      · rw [f_Mo_merge_b106_eq, mo_g2 ha, Option.bind_some, mo_a2 ha ha6, Option.bind_some, q1, if_neg (nI_ge (by omega) (by omega)), cI_of (mo_is ha) (mo_numberOf ha ha6 (by omega)), q3 k (by omega), cI_of (mo_is ha) (mo_has (by omega) ha hR hi sI hsm), if_neg hm, if_pos rfl, cI_of (mo_is ha) (mo_numberOf ha ha6 (by omega)), q3 k (by omega), cV_of (mo_is ha) a1, f_Mo_merge_b143_eq, nI_1, b1]
      · by_cases hf : (mrg (gs i) (gs a) (gs b)).length ≤ 30
        · rw [if_pos hf] at b4 ⊢; exact b4
        · rw [if_neg hf] at b4 ⊢; exact ⟨b4.1, b4.2.1.trans (a3 12 (by decide)), b4.2.2.1, b4.2.2.2⟩
/-- the base's kept facts -/
theorem mo_merge51 {i a b t : Nat} (hG : 100 ≤ G) (ha : moA h m A) (hi : i < 6) (ha6 : a < 6) (hb6 : b < 6) (ht6 : t < 6) (aA : Asc (gs a)) (sI : Sm (gs i)) (sA : Sm (gs a)) (sB : Sm (gs b)) :
    ∀ (d F k : Nat) (S : Nat → Int32) (R : Nat → Nat → Int32), d < F → k + d = (gs i).length → moG R gs → moM S R (addP (fun n => decide (n ∈ gs a) && decide (n ∈ gs b)) id [] ((gs i).take k)) →
      ∃ (S2 : Nat → Int32) (R2 : Nat → Nat → Int32), f_Mo_merge_b51 G F m (nI i) (nI a) (nI b) (nI t) (nI k) (moH h m A S R) = some (some (.int (if (mrg (gs i) (gs a) (gs b)).length ≤ 30 then nI (clL (gs i) (gs a) (gs b)).length else -1)), moH h m A S2 R2) ∧ (∀ j, j ≠ 4 → j ≠ 12 → S2 j = S j) ∧ (∀ j, j ≠ 1 → j ≠ 2 → j ≠ 3 → j ≠ 13 → j ≠ 14 → R2 j = R j) ∧ (if (mrg (gs i) (gs a) (gs b)).length ≤ 30 then moG R2 (upG gs t (mrg (gs i) (gs a) (gs b))) ∧ moK S2 R2 (clL (gs i) (gs a) (gs b)) else moG R2 gs ∧ S2 12 = S 12 ∧ R2 13 = R 13 ∧ R2 14 = R 14) := by
  intro d
  induction d with
  | zero =>
    intro F k S R hF hk hR hM
    obtain ⟨F, rfl⟩ : ∃ F', F = F' + 1 := ⟨F - 1, by omega⟩
    obtain ⟨q1, q2, q3⟩ := hR i hi
    obtain ⟨p1, p2, p3⟩ := hR a ha6
    rw [List.take_of_length_le (by omega)] at hM
    obtain ⟨S2, R2, b1, b2, b3, b4⟩ := mo_merge106 (G := G) (gs := gs) (i := i) (a := a) (b := b) (t := t) hG ha hi ha6 hb6 ht6 aA sI sA sB (gs a).length G 0 S R (by omega) (by omega) hR hM
    refine ⟨S2, R2, ?_, b2, b3, b4⟩
    rw [f_Mo_merge_b51_eq, mo_g2 ha, Option.bind_some, mo_a2 ha hi, Option.bind_some, q1, if_pos (nI_le (by omega) (by omega))]
    exact b1
  | succ d ih =>
    intro F k S R hF hk hR hM
    obtain ⟨F, rfl⟩ : ∃ F', F = F' + 1 := ⟨F - 1, by omega⟩
    obtain ⟨q1, q2, q3⟩ := hR i hi
    have hsm := sI k (by omega)
    have e1 := addP1 (p := fun n => decide (n ∈ gs a) && decide (n ∈ gs b)) (r := id) (g := []) (l := gs i) (k := k) (by omega)
    have tk := addP_len1 (p := fun n => decide (n ∈ gs a) && decide (n ∈ gs b)) (r := id) ((gs i).take k) [] asc_nil
    rw [List.length_nil, List.length_take] at tk
    have skip : addP (fun n => decide (n ∈ gs a) && decide (n ∈ gs b)) id [] ((gs i).take (k + 1)) = addP (fun n => decide (n ∈ gs a) && decide (n ∈ gs b)) id [] ((gs i).take k) → ∃ (S2 : Nat → Int32) (R2 : Nat → Nat → Int32), f_Mo_merge_b97 G (f_Mo_merge_b51 G F) m (nI i) (nI a) (nI b) (nI t) (nI k) (moH h m A S R) = some (some (.int (if (mrg (gs i) (gs a) (gs b)).length ≤ 30 then nI (clL (gs i) (gs a) (gs b)).length else -1)), moH h m A S2 R2) ∧ (∀ j, j ≠ 4 → j ≠ 12 → S2 j = S j) ∧ (∀ j, j ≠ 1 → j ≠ 2 → j ≠ 3 → j ≠ 13 → j ≠ 14 → R2 j = R j) ∧ (if (mrg (gs i) (gs a) (gs b)).length ≤ 30 then moG R2 (upG gs t (mrg (gs i) (gs a) (gs b))) ∧ moK S2 R2 (clL (gs i) (gs a) (gs b)) else moG R2 gs ∧ S2 12 = S 12 ∧ R2 13 = R 13 ∧ R2 14 = R 14) := fun e => by
      rw [f_Mo_merge_b97_eq, nI_1]
      exact ih F (k + 1) S R (by omega) (by omega) hR (by rw [e]; exact hM)
    rw [f_Mo_merge_b51_eq, mo_g2 ha, Option.bind_some, mo_a2 ha hi, Option.bind_some, q1, if_neg (nI_ge (by omega) (by omega)), cI_of (mo_is ha) (mo_numberOf ha hi (by omega)), q3 k (by omega), cI_of (mo_is ha) (mo_has (by omega) ha hR ha6 sA hsm)]
    by_cases hm : (gs i).getD k 0 ∈ gs a
    · rw [if_pos hm, if_neg (by decide), cI_of (mo_is ha) (mo_has (by omega) ha hR hb6 sB hsm)]
      by_cases hm2 : (gs i).getD k 0 ∈ gs b
      · rw [if_pos (show (decide ((gs i).getD k 0 ∈ gs a) && decide ((gs i).getD k 0 ∈ gs b)) = true by rw [decide_eq_true hm, decide_eq_true hm2]; rfl)] at e1
        rw [if_pos hm2, if_neg (by decide)]
        obtain ⟨S2, f2, a1, a2, a3⟩ := mo_add (G := G) (n := (gs i).getD k 0) hG ha hM (by omega) hsm
        obtain ⟨S3, R3, b1, b2, b3, b4⟩ := ih F (k + 1) S2 (upR R 3 f2) (by omega) (by omega) (moG_3 hR) (by rw [e1]; exact a2)
        refine ⟨S3, R3, ?_, fun j h1 h2 => (b2 j h1 h2).trans (a3 j h1), fun j h1 h2 h3 h4 h5 => (b3 j h1 h2 h3 h4 h5).trans (if_neg h3), ?_⟩
        · rw [cV_of (mo_is ha) a1, f_Mo_merge_b97_eq, nI_1, b1]
        · by_cases hf : (mrg (gs i) (gs a) (gs b)).length ≤ 30
          · rw [if_pos hf] at b4 ⊢; exact b4
          · rw [if_neg hf] at b4 ⊢; exact ⟨b4.1, b4.2.1.trans (a3 12 (by decide)), b4.2.2.1, b4.2.2.2⟩
      · rw [if_neg (show ¬ (decide ((gs i).getD k 0 ∈ gs a) && decide ((gs i).getD k 0 ∈ gs b)) = true by rw [decide_eq_false hm2, Bool.and_false]; decide)] at e1
        rw [if_neg hm2, if_pos rfl]
        exact skip e1
    · rw [if_neg (show ¬ (decide ((gs i).getD k 0 ∈ gs a) && decide ((gs i).getD k 0 ∈ gs b)) = true by rw [decide_eq_false hm, Bool.false_and]; decide)] at e1
      rw [if_neg hm, if_pos rfl]
      exact skip e1
variable {S : Nat → Int32} {R : Nat → Nat → Int32}
theorem mo_merge_no {x1 x2 x3 x4 : Int32} (ha : moA h m A) (hn : ¬ (okG x1 ∧ okG x2 ∧ okG x3 ∧ okG x4)) : f_Mo_merge G m x1 x2 x3 x4 (moH h m A S R) = some (some (.int 0), moH h m A (upd S 0 1) R) := by
  have e : f_Mo_merge_b34 G (f_Mo_merge_b35 G) m x1 x2 x3 x4 m (moH h m A S R) = some (some (.int 0), moH h m A (upd S 0 1) R) := by
    rw [f_Mo_merge_b34_eq, f_Mo_merge_b35_eq, cI_of (mo_is ha) (mo_there0 ha), if_pos rfl]
  rw [f_Mo_merge_eq, cI_of rfl mo_isGraph]
  by_cases h1 : okG x1
  · rw [if_neg (by rw [if_pos h1]; decide), cI_of rfl mo_isGraph]
    by_cases h2 : okG x2
    · rw [if_neg (by rw [if_pos h2]; decide), cI_of rfl mo_isGraph]
      by_cases h3 : okG x3
      · rw [if_neg (by rw [if_pos h3]; decide), cI_of rfl mo_isGraph, if_pos (by rw [if_neg (fun q => hn ⟨h1, h2, h3, q⟩)]), e]
      · rw [if_pos (by rw [if_neg h3]), e]
    · rw [if_pos (by rw [if_neg h2]), e]
  · rw [if_pos (by rw [if_neg h1]), e]
theorem mo_merge {i a b t : Nat} (hG : 100 ≤ G) (ha : moA h m A) (hR : moG R gs) (hi : i < 6) (ha6 : a < 6) (hb6 : b < 6) (ht6 : t < 6) (aA : Asc (gs a)) (sI : Sm (gs i)) (sA : Sm (gs a)) (sB : Sm (gs b)) :
    ∃ (S2 : Nat → Int32) (R2 : Nat → Nat → Int32), f_Mo_merge G m (nI i) (nI a) (nI b) (nI t) (moH h m A S R) = some (some (.int (if (mrg (gs i) (gs a) (gs b)).length ≤ 30 then nI (clL (gs i) (gs a) (gs b)).length else -1)), moH h m A S2 R2) ∧ S2 0 = 0 ∧ (∀ j, j ≠ 0 → j ≠ 4 → j ≠ 12 → S2 j = S j) ∧ (∀ j, j ≠ 1 → j ≠ 2 → j ≠ 3 → j ≠ 13 → j ≠ 14 → R2 j = R j) ∧ (if (mrg (gs i) (gs a) (gs b)).length ≤ 30 then moG R2 (upG gs t (mrg (gs i) (gs a) (gs b))) ∧ moK S2 R2 (clL (gs i) (gs a) (gs b)) else moG R2 gs ∧ S2 12 = S 12 ∧ R2 13 = R 13 ∧ R2 14 = R 14) := by
  have q2 := (hR i hi).2.1
  obtain ⟨S2, R2, b1, b2, b3, b4⟩ := mo_merge51 (G := G) (gs := gs) (i := i) (a := a) (b := b) (t := t) hG ha hi ha6 hb6 ht6 aA sI sA sB (gs i).length G 0 (upd (upd S 0 0) 4 0) R (by omega) (by omega) hR ⟨by simp [upd, addP]; rfl, fun i hi => by simp [addP] at hi, asc_nil, sm_nil⟩
  refine ⟨S2, R2, ?_, by rw [b2 0 (by decide) (by decide)]; simp [upd], fun j h0 h1 h2 => by rw [b2 j h1 h2]; simp [upd, h0, h1], b3, ?_⟩
  · rw [f_Mo_merge_eq, cI_of rfl mo_isGraph, if_neg (by rw [if_pos (okG_of hi)]; decide), cI_of rfl mo_isGraph, if_neg (by rw [if_pos (okG_of ha6)]; decide), cI_of rfl mo_isGraph, if_neg (by rw [if_pos (okG_of hb6)]; decide), cI_of rfl mo_isGraph, if_neg (by rw [if_pos (okG_of ht6)]; decide), f_Mo_merge_b35_eq, cI_of (mo_is ha) (mo_there1 ha), if_neg (by decide), mo_p4 ha, Option.bind_some]
    exact b1
  · by_cases hf : (mrg (gs i) (gs a) (gs b)).length ≤ 30
    · rw [if_pos hf] at b4 ⊢; exact b4
    · rw [if_neg hf] at b4 ⊢; exact ⟨b4.1, b4.2.1.trans (by simp [upd]), b4.2.2.1, b4.2.2.2⟩
/-- clash -/
theorem mo_clash26 {x1 x2 : Int32} (ha : moA h m A) : f_Mo_clash_b26 G (f_Mo_clash_b27 G) m x1 x2 m (moH h m A S R) = some (some (.int 0), moH h m A (upd S 0 1) R) := by
  rw [f_Mo_clash_b26_eq, f_Mo_clash_b27_eq, cI_of (mo_is ha) (mo_there0 ha), if_pos rfl]
theorem mo_clash_no {x1 x2 : Int32} {L : List Nat} (ha : moA h m A) (hK : moK S R L) (hl : L.length ≤ 92) (hn : ¬ (okK L x1 ∧ okT x2)) : f_Mo_clash G m x1 x2 (moH h m A S R) = some (some (.int 0), moH h m A (upd S 0 1) R) := by
  rw [f_Mo_clash_eq]
  by_cases h1 : x1 < 0
  · rw [if_pos h1, mo_clash26 ha]
  · rw [if_neg h1, mo_g12 ha, Option.bind_some, hK.1]
    by_cases h2 : nI L.length ≤ x1
    · rw [if_pos h2, mo_clash26 ha]
    · rw [if_neg h2]
      by_cases h3 : x2 < 0
      · rw [if_pos h3, mo_clash26 ha]
      · rw [if_neg h3]
        by_cases h4 : (1 : Int32) < x2
        · rw [if_pos h4, mo_clash26 ha]
        · exfalso
          rw [i_lt0] at h1 h3
          rw [i_ge (nI_toInt (by omega))] at h2
          rw [Int32.lt_iff_toInt_lt, show (1 : Int32).toInt = 1 by decide] at h4
          exact hn ⟨⟨by omega, by omega⟩, by omega, by omega⟩
theorem mo_clash {k w : Nat} {L : List Nat} (ha : moA h m A) (hK : moK S R L) (hl : L.length ≤ 92) (hk : k < L.length) (hw : w < 2) : f_Mo_clash G m (nI k) (nI w) (moH h m A S R) = some (some (.int (nI (cshR L k w))), moH h m A (upd S 0 0) R) := by
  unfold cshR
  rw [f_Mo_clash_eq, if_neg (nI_pos (by omega)), mo_g12 ha, Option.bind_some, hK.1, if_neg (nI_ge hk (by omega)), if_neg (nI_pos (by omega)), if_neg (show ¬ (1 : Int32) < nI w from nI_nlt (a := 1) (by omega) (by omega)), f_Mo_clash_b27_eq, cI_of (mo_is ha) (mo_there1 ha), if_neg (by decide)]
  by_cases h0 : w = 0
  · rw [if_pos (by rw [h0]; rfl), if_pos h0, mo_g13 ha, Option.bind_some, mo_a13 ha (by omega), Option.bind_some, hK.2.1 k hk, f_Mo_clash_b54_eq]
  · rw [if_neg (nI_ne0 (by omega) (by omega)), if_neg h0, mo_g14 ha, Option.bind_some, mo_a14 ha (by omega), Option.bind_some, hK.2.2 k hk, f_Mo_clash_b54_eq]
end MRR2
