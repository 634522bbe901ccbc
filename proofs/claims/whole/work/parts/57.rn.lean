/-! PURE: terms put for nodes -/
def tr (ρ : Nat → Nat) (t : Nat) : Nat := if 40 ≤ t ∧ t < 46 then ρ (t - 40) else t
def ren (ρ : Nat → Nat) (n : Nat) : Nat := 4096 * tr ρ (n / 4096) + 64 * (n / 64 % 64) + tr ρ (n % 64)
/-- ρ gives each node of g a term -/
def tot (ρ : Nat → Nat) (g : List Nat) : Prop := ∀ t : Nat, 40 ≤ t → stb 2 g t = true → ρ (t - 40) < 46
theorem tot.b {ρ : Nat → Nat} {g : List Nat} (h : tot ρ g) (hg : okL g) {t : Nat} (ht : stb 2 g t = true) : tr ρ t < 46 := by
  unfold tr
  have := stb_lt hg ht
  split
  · rename_i q; exact h t q.1 ht
  · exact this
theorem st_s {g : List Nat} {n : Nat} (hn : n ∈ g) : stb 2 g (n / 4096) = true := stb2.mpr ⟨n, hn, Or.inl rfl⟩
theorem st_o {g : List Nat} {n : Nat} (hn : n ∈ g) : stb 2 g (n % 64) = true := stb2.mpr ⟨n, hn, Or.inr rfl⟩
theorem ren_p {ρ : Nat → Nat} {n : Nat} (h2 : tr ρ (n % 64) < 64) : ren ρ n / 4096 = tr ρ (n / 4096) ∧ ren ρ n / 64 % 64 = n / 64 % 64 ∧ ren ρ n % 64 = tr ρ (n % 64) := by
  unfold ren
  have : n / 64 % 64 < 64 := Nat.mod_lt _ (by decide)
  omega
theorem ren_ok {ρ : Nat → Nat} {g : List Nat} (hg : okL g) (h : tot ρ g) {n : Nat} (hn : n ∈ g) : okN (ren ρ n) := by
  have a1 := h.b hg (st_s hn)
  have a2 := h.b hg (st_o hn)
  obtain ⟨b1, b2, b3⟩ := ren_p (ρ := ρ) (n := n) (by omega)
  exact ⟨by rw [b1]; exact a1, by rw [b2]; exact (hg n hn).2.1, by rw [b3]; exact a2⟩
/-- the class's row for ρ -/
def rowOn (f : Nat → Int32) (ρ : Nat → Nat) (g : List Nat) : Prop := ∀ t : Nat, 40 ≤ t → stb 2 g t = true → f (t - 40) = nI (ρ (t - 40))
section RNC
variable {G : Nat} {h : pH} {a q b r x : Nat} {g l : List Nat} {f : Nat → Int32} {ρ : Nat → Nat}
theorem mg_putFor {t : Nat} (hx : h.2 x = .inl (0, 6, .inl f)) (hxl : x ∈ h.1) (ht : t < 46) (hf : 40 ≤ t → f (t - 40) = nI (ρ (t - 40))) : f_Mg_putFor G (nI t) x h = some (some (.int (nI (tr ρ t))), h) := by
  rw [f_Mg_putFor_eq]
  by_cases q : 40 ≤ t
  · rw [show nI t - (40 : Int32) = nI (t - 40) from pk_sub (b := 40) q, if_neg (nI_pos (by omega)), aL_of hx hxl, Option.bind_some, if_neg (show ¬ nI 6 ≤ nI (t - 40) from nI_ge (by omega) (by omega)), aI_of hx hxl (by omega) (by omega), Option.bind_some, f_Mg_putFor_b22_eq, hf q]
    unfold tr
    rw [if_pos ⟨q, ht⟩]
  · have lo : ∀ t, t < 40 → (nI t - (40 : Int32)) < 0 := by decide
    rw [if_pos (lo t (by omega)), f_Mg_putFor_b21_eq, f_Mg_putFor_b22_eq]
    unfold tr
    rw [if_neg (fun k => q k.1)]
theorem mg_renamed {n : Nat} (hx : h.2 x = .inl (0, 6, .inl f)) (hxl : x ∈ h.1) (hl : okL l) (hρ : tot ρ l) (hf : rowOn f ρ l) (hn : n ∈ l) : f_Mg_renamed G (nI n) x h = some (some (.int (nI (ren ρ n))), h) := by
  have hN := hl n hn
  have n20 := hN.lt
  have a1 := hρ.b hl (st_s hn)
  have a2 := hρ.b hl (st_o hn)
  have one : ∀ t : Nat, stb 2 l t = true → f_Mg_putFor G (nI t) x h = some (some (.int (nI (tr ρ t))), h) := fun t ht => mg_putFor hx hxl (stb_lt hl ht) (fun q => hf t q ht)
  rw [f_Mg_renamed_eq, cI_of rfl (mg_subj (by omega)), cI_of rfl (one _ (st_s hn)), cI_of rfl (mg_verb (by omega)), cI_of rfl (mg_obj (by omega)), cI_of rfl (one _ (st_o hn)), cI_of rfl (mg_number a1 hN.2.1 a2)]
  rfl
/-- insertRenamed(from, row) -/
theorem gr_insRen (hG : 100 ≤ G) (hg : Gr h a q g) (hA : Asc g) (hS : Sm g) (hb : Gr h b r l) (hl : okL l) (hx : h.2 x = .inl (0, 6, .inl f)) (hxl : x ∈ h.1) (hρ : tot ρ l) (hf : rowOn f ρ l) (d1 : ¬ cel a q b) (d2 : ¬ cel a q r) (d3 : ¬ cel a q x) :
    ∃ (h2 : pH) (g2 : List Nat), f_Gr_insertRenamed G a b x h = some (some (.int (bI (decide ((addP (fun _ => true) (ren ρ) g l).length ≤ 30)))), h2) ∧ Ch h h2 (cel a q) ∧ Gr h2 a q g2 ∧ ((addP (fun _ => true) (ren ρ) g l).length ≤ 30 → g2 = addP (fun _ => true) (ren ρ) g l) := by
  have h5 := hb.2.2.2.2.1
  have lp : ∀ (d F k : Nat) (h : pH), d < F → k + d = l.length → Gr h b r l → h.2 x = .inl (0, 6, .inl f) → x ∈ h.1 → Gr h a q (addP (fun _ => true) (ren ρ) g (l.take k)) →
      ∃ (h2 : pH) (g2 : List Nat), f_Gr_insertRenamed_b2 G F a b x (nI k) h = some (some (.int (bI (decide ((addP (fun _ => true) (ren ρ) g l).length ≤ 30)))), h2) ∧ Ch h h2 (cel a q) ∧ Gr h2 a q g2 ∧ ((addP (fun _ => true) (ren ρ) g l).length ≤ 30 → g2 = addP (fun _ => true) (ren ρ) g l) := by
    intro d
    induction d with
    | zero =>
      intro F k h hF hk hb hx hxl hg
      obtain ⟨F, rfl⟩ : ∃ F', F = F' + 1 := ⟨F - 1, by omega⟩
      have h6 := hg.2.2.2.2.1
      rw [List.take_of_length_le (by omega)] at hg h6
      refine ⟨h, _, ?_, Ch.rf, hg, fun _ => rfl⟩
      rw [f_Gr_insertRenamed_b2_eq, hb.cnt, Option.bind_some, if_pos (nI_le (by omega) (by omega)), decide_eq_true h6]
      rfl
    | succ d ih =>
      intro F k h hF hk hb hx hxl hg
      obtain ⟨F, rfl⟩ : ∃ F', F = F' + 1 := ⟨F - 1, by omega⟩
      have hmem : l.getD k 0 ∈ l := mem_getD.mpr ⟨k, by omega, rfl⟩
      have hsm := (ren_ok hl hρ hmem).lt
      have h6 := hg.2.2.2.2.1
      have e1 := addP1 (p := fun _ => true) (r := ren ρ) (g := g) (l := l) (k := k) (by omega)
      rw [if_pos rfl] at e1
      have hA1 : Asc (addP (fun _ => true) (ren ρ) g (l.take k)) := addP_asc _ _ hA
      have hS1 : Sm (addP (fun _ => true) (ren ρ) g (l.take k)) := addP_sm hS fun n hn _ => (ren_ok hl hρ (List.mem_of_mem_take hn)).lt
      have mt := addP_take (p := fun _ => true) (r := ren ρ) (g := g) (l := l) (k + 1) hA
      obtain ⟨h2, b1, b2, b3⟩ := gr_insert (G := G) (n := ren ρ (l.getD k 0)) hG hg hA1 hS1 hsm
      rw [f_Gr_insertRenamed_b2_eq, hb.cnt, Option.bind_some, if_neg (nI_ge (by omega) (by omega)), hb.row, Option.bind_some, hb.at (by omega), Option.bind_some, cI_of rfl (mg_renamed hx hxl hl hρ hf hmem), cI_of hg.is b1]
      by_cases hf1 : (gIns (ren ρ (l.getD k 0)) (addP (fun _ => true) (ren ρ) g (l.take k))).length ≤ 30
      · obtain ⟨p1, p2⟩ := put_fit hA1 hf1
        rw [if_neg p2, nI_1]
        obtain ⟨h3, g3, c1, c2, c3, c4⟩ := ih F (k + 1) h2 (by omega) (by omega) (hb.keep b2 d1 d2) (by rw [b2.2 x d3]; exact hx) (by rw [b2.1]; exact hxl) (by rw [e1]; rw [p1] at b3; exact b3)
        exact ⟨h3, g3, c1, Ch.tr b2 c2, c3, c4⟩
      · obtain ⟨p1, p2⟩ := put_full hA1 h6 hf1
        have hn : ¬ (addP (fun _ => true) (ren ρ) g l).length ≤ 30 := fun q => by
          rw [e1] at mt
          exact hf1 (Nat.le_trans mt q)
        refine ⟨h2, _, ?_, b2, b3, fun q => absurd q hn⟩
        rw [if_pos p2, decide_eq_false hn]
        rfl
  have := lp l.length G 0 h (by omega) (by omega) hb hx hxl hg
  rw [f_Gr_insertRenamed_eq]
  exact this
end RNC
/-- the nodes of a graph; the terms that may be put -/
def ndL (g : List Nat) : List Nat := (List.range 46).filter (fun t => decide (40 ≤ t) && stb 2 g t)
def tmL (lo : Nat) (g : List Nat) : List Nat := (List.range 46).filter (fun t => decide (lo ≤ t) && stb 2 g t)
theorem rng_asc (n : Nat) : Asc (List.range n) := asc_pw.mpr List.pairwise_lt_range
theorem fl_asc (p : Nat → Bool) (n : Nat) : Asc ((List.range n).filter p) := asc_filter _ (rng_asc n)
theorem ndL_mem {g : List Nat} {t : Nat} : t ∈ ndL g ↔ (40 ≤ t ∧ t < 46) ∧ stb 2 g t = true := by
  unfold ndL
  rw [List.mem_filter, List.mem_range, Bool.and_eq_true, decide_eq_true_eq]
  exact ⟨fun h => ⟨⟨h.2.1, h.1⟩, h.2.2⟩, fun h => ⟨h.1.2, h.1.1, h.2⟩⟩
theorem tmL_mem {lo : Nat} {g : List Nat} {t : Nat} : t ∈ tmL lo g ↔ (lo ≤ t ∧ t < 46) ∧ stb 2 g t = true := by
  unfold tmL
  rw [List.mem_filter, List.mem_range, Bool.and_eq_true, decide_eq_true_eq]
  exact ⟨fun h => ⟨⟨h.2.1, h.1⟩, h.2.2⟩, fun h => ⟨h.1.2, h.1.1, h.2⟩⟩
theorem tmL_len {lo : Nat} {g : List Nat} : (tmL lo g).length ≤ 46 := fl_len _ _
theorem ndL_c {g : List Nat} : (ndL g).length = ndc g := (List.countP_eq_length_filter ..).symm
theorem fl_40 (p : Nat → Bool) {k : Nat} (h1 : 40 ≤ k) (h2 : k ≤ 46) : ((List.range k).filter (fun t => decide (40 ≤ t) && p t)).length ≤ k - 40 := by
  obtain ⟨d, rfl⟩ : ∃ d, k = 40 + d := ⟨k - 40, by omega⟩
  rw [List.range_add, List.filter_append, List.length_append]
  have e0 : ((List.range 40).filter (fun t => decide (40 ≤ t) && p t)) = [] := List.filter_eq_nil_iff.mpr fun t ht => by
    have := List.mem_range.mp ht
    rw [decide_eq_false (by omega), Bool.false_and]; decide
  have l1 := List.length_filter_le (fun t => decide (40 ≤ t) && p t) ((List.range d).map (40 + ·))
  rw [List.length_map, List.length_range] at l1
  rw [e0, List.length_nil]
  omega
theorem ndL_len {g : List Nat} : (ndL g).length ≤ 6 := fl_40 (stb 2 g) (k := 46) (by omega) (by omega)
def moN (S : Nat → Int32) (R : Nat → Nat → Int32) (L : List Nat) : Prop := S 7 = nI L.length ∧ rowL (R 6) L
def moT (S : Nat → Int32) (R : Nat → Nat → Int32) (L : List Nat) : Prop := S 9 = nI L.length ∧ rowL (R 8) L
section RNR
variable {G : Nat} {h : pH} {m : Nat} {A : Nat → Nat} {gs : Nat → List Nat} {L : List Nat}
theorem mo_prep71 {g lo : Nat} (hG : 100 ≤ G) (ha : moA h m A) (hg : g < 6) (sG : Sm (gs g)) :
    ∀ (d F k : Nat) (S : Nat → Int32) (R : Nat → Nat → Int32), d < F → k + d = 46 → lo ≤ k → moG R gs → moT S R ((List.range k).filter (fun t => decide (lo ≤ t) && stb 2 (gs g) t)) →
      ∃ (S2 : Nat → Int32) (R2 : Nat → Nat → Int32), f_Mo_prepare_b71 G F m (nI g) (nI k) (moH h m A S R) = some (none, moH h m A S2 R2) ∧ moT S2 R2 (tmL lo (gs g)) ∧ (∀ j, j ≠ 9 → S2 j = S j) ∧ ∀ j, j ≠ 8 → R2 j = R j := by
  intro d
  induction d with
  | zero =>
    intro F k S R hF hk hlo hR hT
    obtain ⟨F, rfl⟩ : ∃ F', F = F' + 1 := ⟨F - 1, by omega⟩
    have : k = 46 := by omega
    subst this
    exact ⟨S, R, by rw [f_Mo_prepare_b71_eq, if_pos (by decide)], hT, fun _ _ => rfl, fun _ _ => rfl⟩
  | succ d ih =>
    intro F k S R hF hk hlo hR hT
    obtain ⟨F, rfl⟩ : ∃ F', F = F' + 1 := ⟨F - 1, by omega⟩
    have e := fl1 (fun t => decide (lo ≤ t) && stb 2 (gs g) t) k
    have hle := fl_len (fun t => decide (lo ≤ t) && stb 2 (gs g) t) k
    rw [decide_eq_true hlo, Bool.true_and] at e
    rw [f_Mo_prepare_b71_eq, if_neg (show ¬ (46 : Int32) ≤ nI k from nI_ge (b := 46) (by omega) (by omega)), cI_of (mo_is ha) (mo_stands2 hG ha hR hg sG (by omega))]
    cases eb : stb 2 (gs g) k
    · rw [eb, if_neg (by decide)] at e
      rw [if_pos (show bI false = 0 from rfl), f_Mo_prepare_b110_eq, nI_1]
      exact ih F (k + 1) S R (by omega) (by omega) (by omega) hR (by rw [e]; exact hT)
    · rw [eb, if_pos rfl] at e
      obtain ⟨S2, R2, b1, b2, b3, b4⟩ := ih F (k + 1) (upd S 9 (nI (((List.range k).filter (fun t => decide (lo ≤ t) && stb 2 (gs g) t)).length + 1))) (upR R 8 (upd (R 8) ((List.range k).filter (fun t => decide (lo ≤ t) && stb 2 (gs g) t)).length (nI k))) (by omega) (by omega) (by omega) (moG_n hR rfl rfl) ⟨by rw [e, List.length_append]; simp [upd], by rw [e, upR_s]; exact rowL_snoc hT.2⟩
      refine ⟨S2, R2, ?_, b2, fun j hj => by rw [b3 j hj]; simp [upd, hj], fun j hj => by rw [b4 j hj, upR_n hj]⟩
      rw [if_neg (show ¬ bI true = 0 by decide), mo_g8 ha, Option.bind_some, mo_g9 ha, Option.bind_some, hT.1, mo_s8 ha (by omega), Option.bind_some, mo_g9 ha, Option.bind_some, hT.1, nI_1, mo_p9 ha, Option.bind_some, f_Mo_prepare_b110_eq, nI_1, b1]
theorem mo_prep9 {g i : Nat} {w : Int32} (hG : 100 ≤ G) (ha : moA h m A) (hg : g < 6) (hi : i < 6) (sG : Sm (gs g)) (sI : Sm (gs i)) :
    ∀ (d F k : Nat) (S : Nat → Int32) (R : Nat → Nat → Int32), d < F → k + d = 46 → 40 ≤ k → moG R gs → moN S R ((List.range k).filter (fun t => decide (40 ≤ t) && stb 2 (gs g) t)) →
      ∃ (S2 : Nat → Int32) (R2 : Nat → Nat → Int32), f_Mo_prepare_b9 G F m (nI g) (nI i) w (nI k) (moH h m A S R) = some (none, moH h m A S2 R2) ∧ moN S2 R2 (ndL (gs g)) ∧ moT S2 R2 (tmL (if w = 0 then 40 else 0) (gs i)) ∧ (∀ j, j ≠ 7 → j ≠ 9 → S2 j = S j) ∧ ∀ j, j ≠ 6 → j ≠ 8 → R2 j = R j := by
  intro d
  induction d with
  | zero =>
    intro F k S R hF hk h40 hR hN
    obtain ⟨F, rfl⟩ : ∃ F', F = F' + 1 := ⟨F - 1, by omega⟩
    have : k = 46 := by omega
    subst this
    by_cases hw : w = 0
    · rw [if_pos hw]
      have e0 : ((List.range 40).filter (fun t => decide (40 ≤ t) && stb 2 (gs i) t)) = [] := List.filter_eq_nil_iff.mpr fun t ht => by
        have := List.mem_range.mp ht
        rw [decide_eq_false (by omega), Bool.false_and]; decide
      obtain ⟨S2, R2, b1, b2, b3, b4⟩ := mo_prep71 (G := G) (lo := 40) (gs := gs) hG ha hi sI 6 G 40 (upd S 9 0) R (by omega) (by omega) (by omega) hR ⟨by rw [e0]; simp [upd]; rfl, by rw [e0]; exact rowL_nil⟩
      refine ⟨S2, R2, ?_, ⟨by rw [b3 7 (by decide)]; simp [upd]; exact hN.1, by rw [b4 6 (by decide)]; exact hN.2⟩, b2, fun j h1 h2 => by rw [b3 j h2]; simp [upd, h2], fun j h1 h2 => b4 j h2⟩
      rw [f_Mo_prepare_b9_eq, if_pos (by decide), mo_p9 ha, Option.bind_some, if_pos hw, f_Mo_prepare_b69_eq]
      exact b1
    · rw [if_neg hw]
      obtain ⟨S2, R2, b1, b2, b3, b4⟩ := mo_prep71 (G := G) (lo := 0) (gs := gs) hG ha hi sI 46 G 0 (upd S 9 0) R (by omega) (by omega) (by omega) hR ⟨by simp [upd]; rfl, rowL_nil⟩
      refine ⟨S2, R2, ?_, ⟨by rw [b3 7 (by decide)]; simp [upd]; exact hN.1, by rw [b4 6 (by decide)]; exact hN.2⟩, b2, fun j h1 h2 => by rw [b3 j h2]; simp [upd, h2], fun j h1 h2 => b4 j h2⟩
      rw [f_Mo_prepare_b9_eq, if_pos (by decide), mo_p9 ha, Option.bind_some, if_neg hw, f_Mo_prepare_b69_eq]
      exact b1
  | succ d ih =>
    intro F k S R hF hk h40 hR hN
    obtain ⟨F, rfl⟩ : ∃ F', F = F' + 1 := ⟨F - 1, by omega⟩
    have e := fl1 (fun t => decide (40 ≤ t) && stb 2 (gs g) t) k
    have hle := fl_40 (stb 2 (gs g)) (k := k) h40 (by omega)
    rw [decide_eq_true h40, Bool.true_and] at e
    rw [f_Mo_prepare_b9_eq, if_neg (show ¬ (46 : Int32) ≤ nI k from nI_ge (b := 46) (by omega) (by omega)), cI_of (mo_is ha) (mo_stands2 hG ha hR hg sG (by omega))]
    cases eb : stb 2 (gs g) k
    · rw [eb, if_neg (by decide)] at e
      rw [if_pos (show bI false = 0 from rfl), f_Mo_prepare_b48_eq, nI_1]
      exact ih F (k + 1) S R (by omega) (by omega) (by omega) hR (by rw [e]; exact hN)
    · rw [eb, if_pos rfl] at e
      obtain ⟨S2, R2, b1, b2, b3, b4, b5⟩ := ih F (k + 1) (upd S 7 (nI (((List.range k).filter (fun t => decide (40 ≤ t) && stb 2 (gs g) t)).length + 1))) (upR R 6 (upd (R 6) ((List.range k).filter (fun t => decide (40 ≤ t) && stb 2 (gs g) t)).length (nI k))) (by omega) (by omega) (by omega) (moG_n hR rfl rfl) ⟨by rw [e, List.length_append]; simp [upd], by rw [e, upR_s]; exact rowL_snoc hN.2⟩
      refine ⟨S2, R2, ?_, b2, b3, fun j hj h9 => by rw [b4 j hj h9]; simp [upd, hj], fun j hj h8 => by rw [b5 j hj h8, upR_n hj]⟩
      rw [if_neg (show ¬ bI true = 0 by decide), mo_g6 ha, Option.bind_some, mo_g7 ha, Option.bind_some, hN.1, mo_s6 ha (by omega), Option.bind_some, mo_g7 ha, Option.bind_some, hN.1, nI_1, mo_p7 ha, Option.bind_some, f_Mo_prepare_b48_eq, nI_1, b1]
variable {S : Nat → Int32} {R : Nat → Nat → Int32}
theorem mo_prepare {g i : Nat} {w : Int32} (hG : 100 ≤ G) (ha : moA h m A) (hR : moG R gs) (hg : g < 6) (hi : i < 6) (sG : Sm (gs g)) (sI : Sm (gs i)) :
    ∃ (S2 : Nat → Int32) (R2 : Nat → Nat → Int32), f_Mo_prepare G m (nI g) (nI i) w (moH h m A S R) = some (none, moH h m A S2 R2) ∧ moN S2 R2 (ndL (gs g)) ∧ moT S2 R2 (tmL (if w = 0 then 40 else 0) (gs i)) ∧ (∀ j, j ≠ 7 → j ≠ 9 → S2 j = S j) ∧ ∀ j, j ≠ 6 → j ≠ 8 → R2 j = R j := by
  have e0 : ((List.range 40).filter (fun t => decide (40 ≤ t) && stb 2 (gs g) t)) = [] := List.filter_eq_nil_iff.mpr fun t ht => by
    have := List.mem_range.mp ht
    rw [decide_eq_false (by omega), Bool.false_and]; decide
  obtain ⟨S2, R2, b1, b2, b3, b4, b5⟩ := mo_prep9 (G := G) (gs := gs) (w := w) hG ha hg hi sG sI 6 G 40 (upd S 7 0) R (by omega) (by omega) (by omega) hR ⟨by rw [e0]; simp [upd]; rfl, by rw [e0]; exact rowL_nil⟩
  refine ⟨S2, R2, ?_, b2, b3, fun j h1 h2 => by rw [b4 j h1 h2]; simp [upd, h1], b5⟩
  rw [f_Mo_prepare_eq, mo_p7 ha, Option.bind_some]
  exact b1
theorem mo_index_no {x : Int32} (hG : 100 ≤ G) (ha : moA h m A) (hN : moN S R L) (hl : L.length ≤ 6) (hx : ∀ k, k < L.length → nI (L.getD k 0) ≠ x) : f_Mo_indexOf G m x (moH h m A S R) = some (some (.int (-1)), moH h m A S R) := by
  have lp : ∀ (d F k : Nat), d < F → k + d = L.length → f_Mo_indexOf_b2 G F m x (nI k) (moH h m A S R) = some (some (.int (-1)), moH h m A S R) := by
    intro d
    induction d with
    | zero =>
      intro F k hF hk
      obtain ⟨F, rfl⟩ : ∃ F', F = F' + 1 := ⟨F - 1, by omega⟩
      rw [f_Mo_indexOf_b2_eq, mo_g7 ha, Option.bind_some, hN.1, if_pos (nI_le (by omega) (by omega))]
    | succ d ih =>
      intro F k hF hk
      obtain ⟨F, rfl⟩ : ∃ F', F = F' + 1 := ⟨F - 1, by omega⟩
      rw [f_Mo_indexOf_b2_eq, mo_g7 ha, Option.bind_some, hN.1, if_neg (nI_ge (by omega) (by omega)), mo_g6 ha, Option.bind_some, mo_a6 ha (by omega), Option.bind_some, hN.2 k (by omega), if_neg (hx k (by omega)), nI_1, ih F (k + 1) (by omega) (by omega)]
  rw [f_Mo_indexOf_eq]
  exact lp L.length G 0 (by omega) (by omega)
theorem mo_index {j : Nat} (hG : 100 ≤ G) (ha : moA h m A) (hN : moN S R L) (hl : L.length ≤ 6) (hA : Asc L) (hS : Sm L) (hj : j < L.length) : f_Mo_indexOf G m (nI (L.getD j 0)) (moH h m A S R) = some (some (.int (nI j)), moH h m A S R) := by
  have sj := hS j hj
  have lp : ∀ (d F k : Nat), d < F → k + d = j → f_Mo_indexOf_b2 G F m (nI (L.getD j 0)) (nI k) (moH h m A S R) = some (some (.int (nI j)), moH h m A S R) := by
    intro d
    induction d with
    | zero =>
      intro F k hF hk
      obtain ⟨F, rfl⟩ : ∃ F', F = F' + 1 := ⟨F - 1, by omega⟩
      have : k = j := by omega
      subst this
      rw [f_Mo_indexOf_b2_eq, mo_g7 ha, Option.bind_some, hN.1, if_neg (nI_ge (by omega) (by omega)), mo_g6 ha, Option.bind_some, mo_a6 ha (by omega), Option.bind_some, hN.2 k (by omega), if_pos rfl]
    | succ d ih =>
      intro F k hF hk
      obtain ⟨F, rfl⟩ : ∃ F', F = F' + 1 := ⟨F - 1, by omega⟩
      have lt := hA k j (by omega) hj
      rw [f_Mo_indexOf_b2_eq, mo_g7 ha, Option.bind_some, hN.1, if_neg (nI_ge (by omega) (by omega)), mo_g6 ha, Option.bind_some, mo_a6 ha (by omega), Option.bind_some, hN.2 k (by omega), if_neg (fun q => by
        have := (nI_eq (by omega) (by omega)).mp q
        omega), nI_1, ih F (k + 1) (by omega) (by omega)]
  rw [f_Mo_indexOf_eq]
  exact lp j G 0 (by omega) (by omega)
/-- the terms put, as the reference has them -/
def moP (R : Nat → Nat → Int32) (L : List Nat) (ρ : Nat → Nat) (n : Nat) : Prop := ∀ k : Nat, k < n → R 11 k = nI (ρ (L.getD k 0 - 40))
theorem ndL_sm {g : List Nat} : Sm (ndL g) := Sm_mem.mpr fun t ht => by have := (ndL_mem.mp ht).1; omega
theorem ndL_asc {g : List Nat} : Asc (ndL g) := fl_asc _ _
theorem mo_putFor {g : List Nat} {t : Nat} {ρ : Nat → Nat} (hG : 100 ≤ G) (ha : moA h m A) (hN : moN S R (ndL g)) (hP : moP R (ndL g) ρ (ndL g).length) (hg : okL g) (ht : stb 2 g t = true) : f_Mo_putFor G m (nI t) (moH h m A S R) = some (some (.int (nI (tr ρ t))), moH h m A S R) := by
  have h46 := stb_lt hg ht
  have hl := ndL_len (g := g)
  rw [f_Mo_putFor_eq]
  by_cases h40 : 40 ≤ t
  · obtain ⟨k, k1, k2⟩ := mem_getD.mp (ndL_mem.mpr ⟨⟨h40, h46⟩, ht⟩)
    have ix := mo_index (G := G) hG ha hN hl ndL_asc ndL_sm k1
    rw [k2] at ix
    rw [cI_of (mo_is ha) ix, if_pos (nI_pos' (by omega)), mo_g11 ha, Option.bind_some, mo_a11 ha (by omega), Option.bind_some, hP k k1, k2, f_Mo_putFor_b20_eq]
    unfold tr
    rw [if_pos ⟨h40, h46⟩]
  · have ix := mo_index_no (G := G) (x := nI t) hG ha hN hl (fun k hk q => by
      have h1 := (ndL_mem.mp (mem_getD.mpr ⟨k, hk, rfl⟩)).1
      have := (nI_eq (by omega) (by omega)).mp q
      omega)
    rw [cI_of (mo_is ha) ix, if_neg (by decide), f_Mo_putFor_b20_eq]
    unfold tr
    rw [if_neg (fun q => h40 q.1)]
theorem mo_imageOf {g : List Nat} {n : Nat} {ρ : Nat → Nat} (hG : 100 ≤ G) (ha : moA h m A) (hN : moN S R (ndL g)) (hP : moP R (ndL g) ρ (ndL g).length) (hg : okL g) (hn : n ∈ g) : f_Mo_imageOf G m (nI n) (moH h m A S R) = some (some (.int (nI (ren ρ n))), moH h m A S R) := by
  have n20 := (hg n hn).lt
  have h6 : n / 64 < 2 ^ 31 := by omega
  rw [f_Mo_imageOf_eq, cI_of rfl (mo_subj (by omega)), cI_of (mo_is ha) (mo_putFor hG ha hN hP hg (st_s hn)), if_neg (by decide), if_neg (by decide), cI_of rfl (mo_obj (by omega)), cI_of (mo_is ha) (mo_putFor hG ha hN hP hg (st_o hn)), show (64 : Int32) = nI 64 from rfl, pk_div (by omega) (by decide) (by decide), pk_rem h6 (by decide) (by decide), cI_of rfl mo_numbered]
  rfl
end RNR
section RNR2
variable {G : Nat} {h : pH} {m : Nat} {A : Nat → Nat} {gs : Nat → List Nat}
/-- imageSize(g) -/
theorem mo_imageSize {g : Nat} {ρ : Nat → Nat} {S : Nat → Int32} {R : Nat → Nat → Int32} (hG : 100 ≤ G) (ha : moA h m A) (hR : moG R gs) (hg : g < 6) (hN : moN S R (ndL (gs g))) (hP : moP R (ndL (gs g)) ρ (ndL (gs g)).length) (hl : okL (gs g)) (hρ : tot ρ (gs g)) :
    ∃ (S2 : Nat → Int32) (f2 : Nat → Int32), f_Mo_imageSize G m (nI g) (moH h m A S R) = some (some (.int (nI (addP (fun _ => true) (ren ρ) [] (gs g)).length)), moH h m A S2 (upR R 3 f2)) ∧ moM S2 (upR R 3 f2) (addP (fun _ => true) (ren ρ) [] (gs g)) ∧ ∀ j, j ≠ 4 → S2 j = S j := by
  have q2 := (hR g hg).2.1
  have lp : ∀ (d F k : Nat) (S : Nat → Int32) (f : Nat → Int32), d < F → k + d = (gs g).length → moN S (upR R 3 f) (ndL (gs g)) → moM S (upR R 3 f) (addP (fun _ => true) (ren ρ) [] ((gs g).take k)) →
      ∃ (S2 : Nat → Int32) (f2 : Nat → Int32), f_Mo_imageSize_b7 G F m (nI g) (nI k) (moH h m A S (upR R 3 f)) = some (some (.int (nI (addP (fun _ => true) (ren ρ) [] (gs g)).length)), moH h m A S2 (upR R 3 f2)) ∧ moM S2 (upR R 3 f2) (addP (fun _ => true) (ren ρ) [] (gs g)) ∧ ∀ j, j ≠ 4 → S2 j = S j := by
    intro d
    induction d with
    | zero =>
      intro F k S f hF hk hN hM
      obtain ⟨F, rfl⟩ : ∃ F', F = F' + 1 := ⟨F - 1, by omega⟩
      obtain ⟨q1, q2, q3⟩ := moG_3 (f := f) hR g hg
      rw [List.take_of_length_le (by omega)] at hM
      refine ⟨S, f, ?_, hM, fun _ _ => rfl⟩
      rw [f_Mo_imageSize_b7_eq, mo_g2 ha, Option.bind_some, mo_a2 ha hg, Option.bind_some, q1, if_pos (nI_le (by omega) (by omega)), mo_g4 ha, Option.bind_some, hM.1]
    | succ d ih =>
      intro F k S f hF hk hN hM
      obtain ⟨F, rfl⟩ : ∃ F', F = F' + 1 := ⟨F - 1, by omega⟩
      obtain ⟨q1, q2, q3⟩ := moG_3 (f := f) hR g hg
      have hmem : (gs g).getD k 0 ∈ gs g := mem_getD.mpr ⟨k, by omega, rfl⟩
      have hsm := (ren_ok hl hρ hmem).lt
      have e1 := addP1 (p := fun _ => true) (r := ren ρ) (g := []) (l := gs g) (k := k) (by omega)
      rw [if_pos rfl] at e1
      have tk := addP_len1 (p := fun _ => true) (r := ren ρ) ((gs g).take k) [] asc_nil
      rw [List.length_nil, List.length_take] at tk
      obtain ⟨S2, f2, a1, a2, a3⟩ := mo_add (G := G) (n := ren ρ ((gs g).getD k 0)) hG ha hM (by omega) hsm
      rw [upR_u] at a1 a2
      obtain ⟨S3, f3, b1, b2, b3⟩ := ih F (k + 1) S2 f2 (by omega) (by omega) ⟨by rw [a3 7 (by decide)]; exact hN.1, hN.2⟩ (by rw [e1]; exact a2)
      refine ⟨S3, f3, ?_, b2, fun j hj => (b3 j hj).trans (a3 j hj)⟩
      rw [f_Mo_imageSize_b7_eq, mo_g2 ha, Option.bind_some, mo_a2 ha hg, Option.bind_some, q1, if_neg (nI_ge (by omega) (by omega)), cI_of (mo_is ha) (mo_numberOf ha hg (by omega)), q3 k (by omega), cI_of (mo_is ha) (mo_imageOf hG ha hN hP hl hmem), cV_of (mo_is ha) a1, nI_1, b1]
  have uid : upR R 3 (R 3) = R := funext fun i => by unfold upR; split <;> simp_all
  obtain ⟨S2, f2, b1, b2, b3⟩ := lp (gs g).length G 0 (upd S 4 0) (R 3) (by omega) (by omega) ⟨by simp [upd]; exact hN.1, hN.2⟩ ⟨by simp [upd, addP]; rfl, fun i hi => by simp [addP] at hi, asc_nil, sm_nil⟩
  refine ⟨S2, f2, ?_, b2, fun j hj => by rw [b3 j hj]; simp [upd, hj]⟩
  rw [uid] at b1
  rw [f_Mo_imageSize_eq, mo_p4 ha, Option.bind_some]
  exact b1
end RNR2
