/-! PURE: apply, of the reference -/
theorem moC_3 {S S2 : Nat → Int32} {R R2 : Nat → Nat → Int32} {go co : List Nat} (hC : moC S R go co) (h1 : S2 15 = S 15) (h2 : S2 16 = S 16) (h3 : R2 17 = R 17) (h4 : R2 18 = R 18) : moC S2 R2 go co := by
  obtain ⟨c1, c2, c3, c4, c5, c6⟩ := hC
  exact ⟨h1.trans c1, h2.trans c2, c3, c4, by rw [h3]; exact c5, by rw [h4]; exact c6⟩
theorem moM_len {S : Nat → Int32} {R : Nat → Nat → Int32} {l : List Nat} (h : moM S R l) : S 4 = nI l.length := h.1
theorem apG_eq {g lv cm : List Nat} (hg : Asc g) : addP (fun n => decide (n ∉ lv)) id (addP (fun _ => true) id [] cm) g = apG g lv cm := asc_ext (addP_asc _ _ (addP_asc _ _ asc_nil)) (addP_asc _ _ (dif_asc hg)) fun m => by
  unfold apG
  rw [addP_mem, addP_mem, addP_mem, dif_mem]
  constructor
  · rintro ((h | ⟨n, h1, h2, h3⟩) | ⟨n, h1, h2, h3⟩)
    · exact absurd h List.not_mem_nil
    · exact Or.inr ⟨n, h1, h2, h3⟩
    · have h3 : n = m := h3
      subst h3; exact Or.inl ⟨h1, of_decide_eq_true h2⟩
  · rintro (⟨h1, h2⟩ | ⟨n, h1, h2, h3⟩)
    · exact Or.inr ⟨m, h1, decide_eq_true h2, rfl⟩
    · exact Or.inl (Or.inr ⟨n, h1, h2, h3⟩)
section APR2
variable {G : Nat} {h : pH} {m : Nat} {A : Nat → Nat} {gs : Nat → List Nat} {go co : List Nat}
theorem mo_apply79 {g : Nat} (bk : Bool) (hG : 100 ≤ G) (ha : moA h m A) (hg : g < 6) (hA : Asc (gs g)) (hS : Sm (gs g)) (hgo : Sm go) (hco : Sm co) (M0 : List Nat) (hM0 : Asc M0) (hM0s : Sm M0) (hl0 : M0.length ≤ 30)
    (hfin : (addP (fun n => decide (n ∉ (if bk = true then co else go))) id M0 (gs g)).length ≤ 30) :
    ∀ (d F k : Nat) (S : Nat → Int32) (R : Nat → Nat → Int32), d < F → k + d = (gs g).length → moG R gs → moC S R go co → moM S R (addP (fun n => decide (n ∉ (if bk = true then co else go))) id M0 ((gs g).take k)) →
      ∃ (S2 : Nat → Int32) (R2 : Nat → Nat → Int32), f_Mo_apply_b79 G F m (nI g) (bI bk) (nI k) (moH h m A S R) = some (some (.int 1), moH h m A S2 R2) ∧ moG R2 (upG gs g (addP (fun n => decide (n ∉ (if bk = true then co else go))) id M0 (gs g))) ∧ (∀ j : Nat, j ≠ 4 → S2 j = S j) ∧ ∀ j : Nat, j ≠ 1 → j ≠ 2 → j ≠ 3 → R2 j = R j := by
  intro d
  induction d with
  | zero =>
    intro F k S R hF hk hR hC hM
    obtain ⟨F, rfl⟩ : ∃ F', F = F' + 1 := ⟨F - 1, by omega⟩
    obtain ⟨q1, q2, q3⟩ := hR g hg
    rw [List.take_of_length_le (by omega)] at hM
    obtain ⟨f3, f4, b1, b2⟩ := mo_keep (G := G) (g := g) hG ha hM hR hfin hg
    refine ⟨S, upR (upR R 1 f3) 2 f4, ?_, b2, fun _ _ => rfl, fun j h1 h2 _ => by simp [upR, h1, h2]⟩
    rw [f_Mo_apply_b79_eq, mo_g2 ha, Option.bind_some, mo_a2 ha hg, Option.bind_some, q1, if_pos (nI_le (by omega) (by omega)), cV_of (mo_is ha) b1]
  | succ d ih =>
    intro F k S R hF hk hR hC hM
    obtain ⟨F, rfl⟩ : ∃ F', F = F' + 1 := ⟨F - 1, by omega⟩
    obtain ⟨q1, q2, q3⟩ := hR g hg
    have hsm := hS k (by omega)
    have e1 := addP1 (p := fun n => decide (n ∉ (if bk = true then co else go))) (r := id) (g := M0) (l := gs g) (k := k) (by omega)
    have hlen : (if bk = true then co else go).length ≤ 30 := by
      split
      · exact hC.2.2.2.1
      · exact hC.2.2.1
    have gn := mo_gone (G := G) (g := g) (n := (gs g).getD k 0) (k := k) bk (f_Mo_apply_b79 G F) ha hC hsm hgo hco (if bk = true then co else go).length G 0 (by omega) (by omega)
    have gn2 : f_Mo_apply_b103 G (f_Mo_apply_b79 G F) G m (nI g) (bI bk) (nI k) (nI ((gs g).getD k 0)) 0 0 (moH h m A S R) = _ := gn
    by_cases hm : (gs g).getD k 0 ∈ (if bk = true then co else go)
    · rw [if_neg (show ¬ decide ((gs g).getD k 0 ∉ (if bk = true then co else go)) = true from fun q => of_decide_eq_true q hm)] at e1
      rw [if_pos hm, f_Mo_apply_b178_eq, nI_1] at gn2
      obtain ⟨S3, R3, b1, b2, b3, b4⟩ := ih F (k + 1) S R (by omega) (by omega) hR hC (by rw [e1]; exact hM)
      refine ⟨S3, R3, ?_, b2, b3, b4⟩
      rw [f_Mo_apply_b79_eq, mo_g2 ha, Option.bind_some, mo_a2 ha hg, Option.bind_some, q1, if_neg (nI_ge (by omega) (by omega)), cI_of (mo_is ha) (mo_numberOf ha hg (by omega)), q3 k (by omega), gn2, b1]
    · rw [if_pos (decide_eq_true hm)] at e1
      have hll : (addP (fun n => decide (n ∉ (if bk = true then co else go))) id M0 ((gs g).take k)).length < 63 := by
        have := addP_take (p := fun n => decide (n ∉ (if bk = true then co else go))) (r := id) (g := M0) (l := gs g) k hM0
        omega
      obtain ⟨S2, f2, a1, a2, a3⟩ := mo_add (G := G) (n := (gs g).getD k 0) hG ha hM hll hsm
      rw [if_neg hm, cV_of (mo_is ha) a1, f_Mo_apply_b178_eq, nI_1] at gn2
      obtain ⟨S3, R3, b1, b2, b3, b4⟩ := ih F (k + 1) S2 (upR R 3 f2) (by omega) (by omega) (moG_3 hR) (moC_3 hC (a3 15 (by decide)) (a3 16 (by decide)) rfl rfl) (by rw [e1]; exact a2)
      refine ⟨S3, R3, ?_, b2, fun j hj => (b3 j hj).trans (a3 j hj), fun j h1 h2 h3 => (b4 j h1 h2 h3).trans (if_neg h3)⟩
      rw [f_Mo_apply_b79_eq, mo_g2 ha, Option.bind_some, mo_a2 ha hg, Option.bind_some, q1, if_neg (nI_ge (by omega) (by omega)), cI_of (mo_is ha) (mo_numberOf ha hg (by omega)), q3 k (by omega), gn2, b1]
theorem mo_apply29 {g : Nat} (bk : Bool) (hG : 100 ≤ G) (ha : moA h m A) (hg : g < 6) (hA : Asc (gs g)) (hS : Sm (gs g)) (hgo : Sm go) (hco : Sm co)
    (hfin : (apG (gs g) (if bk = true then co else go) (if bk = true then go else co)).length ≤ 30) :
    ∀ (d F k : Nat) (S : Nat → Int32) (R : Nat → Nat → Int32), d < F → k + d = (if bk = true then go else co).length → moG R gs → moC S R go co → moM S R (addP (fun _ => true) id [] ((if bk = true then go else co).take k)) →
      ∃ (S2 : Nat → Int32) (R2 : Nat → Nat → Int32), f_Mo_apply_b29 G F m (nI g) (bI bk) (nI k) (moH h m A S R) = some (some (.int 1), moH h m A S2 R2) ∧ moG R2 (upG gs g (apG (gs g) (if bk = true then co else go) (if bk = true then go else co))) ∧ (∀ j : Nat, j ≠ 4 → S2 j = S j) ∧ ∀ j : Nat, j ≠ 1 → j ≠ 2 → j ≠ 3 → R2 j = R j := by
  intro d
  have hcmS : Sm (if bk = true then go else co) := by split <;> assumption
  have st : ∀ (F k : Nat) (S : Nat → Int32) (R : Nat → Nat → Int32), moC S R go co → f_Mo_apply_b29 G (F + 1) m (nI g) (bI bk) (nI k) (moH h m A S R) = f_Mo_apply_b45 G (f_Mo_apply_b29 G F) m (nI g) (bI bk) (nI k) (nI k) (nI (if bk = true then go else co).length) (moH h m A S R) := fun F k S R hC => by
    rw [f_Mo_apply_b29_eq]
    cases bk
    · rw [if_pos (show bI false = 0 from rfl), mo_g16 ha, Option.bind_some, hC.2.1]; rfl
    · rw [if_neg (show ¬ bI true = 0 by decide), mo_g15 ha, Option.bind_some, hC.1]; rfl
  induction d with
  | zero =>
    intro F k S R hF hk hR hC hM
    obtain ⟨F, rfl⟩ : ∃ F', F = F' + 1 := ⟨F - 1, by omega⟩
    have hlen : (if bk = true then go else co).length ≤ 30 := by
      split
      · exact hC.2.2.1
      · exact hC.2.2.2.1
    rw [List.take_of_length_le (by omega)] at hM
    have l1 := addP_len1 (p := fun _ => true) (r := id) (if bk = true then go else co) [] asc_nil
    rw [List.length_nil] at l1
    have q2 := (hR g hg).2.1
    obtain ⟨S2, R2, b1, b2, b3, b4⟩ := mo_apply79 (G := G) (gs := gs) bk hG ha hg hA hS hgo hco (addP (fun _ => true) id [] (if bk = true then go else co)) (addP_asc _ _ asc_nil) hM.2.2.2 (by omega) (by rw [apG_eq hA]; exact hfin) (gs g).length G 0 S R (by omega) (by omega) hR hC hM
    rw [apG_eq hA] at b2
    refine ⟨S2, R2, ?_, b2, b3, b4⟩
    rw [st F k S R hC, f_Mo_apply_b45_eq, if_pos (nI_le (by omega) (by omega))]
    exact b1
  | succ d ih =>
    intro F k S R hF hk hR hC hM
    obtain ⟨F, rfl⟩ : ∃ F', F = F' + 1 := ⟨F - 1, by omega⟩
    have hlen : (if bk = true then go else co).length ≤ 30 := by
      split
      · exact hC.2.2.1
      · exact hC.2.2.2.1
    have hsm := hcmS k (by omega)
    have e1 := addP1 (p := fun _ => true) (r := id) (g := []) (l := (if bk = true then go else co)) (k := k) (by omega)
    rw [if_pos rfl] at e1
    have hll : (addP (fun _ => true) id [] ((if bk = true then go else co).take k)).length < 63 := by
      have := addP_len1 (p := fun _ => true) (r := id) ((if bk = true then go else co).take k) [] asc_nil
      rw [List.length_nil, List.length_take] at this
      omega
    obtain ⟨S2, f2, a1, a2, a3⟩ := mo_add (G := G) (n := (if bk = true then go else co).getD k 0) hG ha hM hll hsm
    obtain ⟨S3, R3, b1, b2, b3, b4⟩ := ih F (k + 1) S2 (upR R 3 f2) (by omega) (by omega) (moG_3 hR) (moC_3 hC (a3 15 (by decide)) (a3 16 (by decide)) rfl rfl) (by rw [e1]; exact a2)
    refine ⟨S3, R3, ?_, b2, fun j hj => (b3 j hj).trans (a3 j hj), fun j h1 h2 h3 => (b4 j h1 h2 h3).trans (if_neg h3)⟩
    have fin : f_Mo_apply_b68 G (f_Mo_apply_b29 G F) m (nI g) (bI bk) (nI k) m (nI ((if bk = true then go else co).getD k 0)) (moH h m A S R) = some (some (.int 1), moH h m A S3 R3) := by
      rw [f_Mo_apply_b68_eq, cV_of (mo_is ha) a1, nI_1, b1]
    rw [st F k S R hC, f_Mo_apply_b45_eq, if_neg (nI_ge (by omega) (by omega)), ← fin]
    cases bk
    · rw [if_pos (show bI false = 0 from rfl), mo_g18 ha, Option.bind_some]
      rw [if_neg (by decide)] at hk ⊢
      rw [mo_a18 ha (by have := hC.2.2.2.1; omega), Option.bind_some, hC.2.2.2.2.2 k (by omega)]
    · rw [if_neg (show ¬ bI true = 0 by decide), mo_g17 ha, Option.bind_some]
      rw [if_pos rfl] at hk ⊢
      rw [mo_a17 ha (by have := hC.2.2.1; omega), Option.bind_some, hC.2.2.2.2.1 k (by omega)]
variable {S : Nat → Int32} {R : Nat → Nat → Int32}
theorem mo_apply_no {x1 x2 : Int32} (ha : moA h m A) (hg : ¬ okG x1) : f_Mo_apply G m x1 x2 (moH h m A S R) = some (some (.int 0), moH h m A (upd S 0 1) R) := by
  rw [f_Mo_apply_eq, cI_of rfl mo_isGraph, if_neg (show ¬ (0 ≤ x1.toInt ∧ x1.toInt < 6) from hg), cI_of (mo_is ha) (mo_there0 ha), if_pos rfl, f_Mo_apply_b20_eq]
theorem mo_apply {g : Nat} (bk : Bool) (hG : 100 ≤ G) (ha : moA h m A) (hR : moG R gs) (hC : moC S R go co) (hg : g < 6) (hA : Asc (gs g)) (hS : Sm (gs g)) (hgo : Sm go) (hco : Sm co) (hgoA : Asc go) (hcoA : Asc co) :
    ∃ (S2 : Nat → Int32) (R2 : Nat → Nat → Int32), f_Mo_apply G m (nI g) (bI bk) (moH h m A S R) = some (some (.int (bI (apOk (gs g) (if bk = true then co else go) (if bk = true then go else co)))), moH h m A S2 R2) ∧ moG R2 (if apOk (gs g) (if bk = true then co else go) (if bk = true then go else co) = true then upG gs g (apG (gs g) (if bk = true then co else go) (if bk = true then go else co)) else gs) ∧ S2 0 = 0 ∧ (∀ j : Nat, j ≠ 0 → j ≠ 4 → S2 j = S j) ∧ ∀ j : Nat, j ≠ 1 → j ≠ 2 → j ≠ 3 → R2 j = R j := by
  have hC0 : moC (upd S 0 0) R go co := moC_3 hC rfl rfl rfl rfl
  have hb : f_Mo_apply G m (nI g) (bI bk) (moH h m A S R) = if bI (apOk (gs g) (if bk = true then co else go) (if bk = true then go else co)) = 0 then some (some (.int 0), moH h m A (upd S 0 0) R) else f_Mo_apply_b29 G G m (nI g) (bI bk) 0 (moH h m A (upd (upd S 0 0) 4 0) R) := by
    rw [f_Mo_apply_eq, cI_of rfl mo_isGraph, if_pos (okG_of hg), cI_of (mo_is ha) (mo_there1 ha), if_neg (by decide), cI_of (mo_is ha) (mo_mayGo bk hG ha hR hC0 hg hS hgo hco), f_Mo_apply_b20_eq, mo_p4 ha, Option.bind_some]
  cases e : apOk (gs g) (if bk = true then co else go) (if bk = true then go else co)
  · refine ⟨upd S 0 0, R, ?_, by rw [if_neg (by decide)]; exact hR, by simp [upd], fun j h1 _ => by simp [upd, h1], fun _ _ _ _ => rfl⟩
    rw [hb, e, if_pos (show bI false = 0 from rfl)]; rfl
  · have hlA : Asc (if bk = true then co else go) := by split <;> assumption
    have hlen : (if bk = true then go else co).length ≤ 30 := by
      split
      · exact hC.2.2.1
      · exact hC.2.2.2.1
    obtain ⟨S2, R2, b1, b2, b3, b4⟩ := mo_apply29 (G := G) bk hG ha hg hA hS hgo hco (apG_len hA hlA e) (if bk = true then go else co).length G 0 (upd (upd S 0 0) 4 0) R (by omega) (by omega) hR (moC_3 hC rfl rfl rfl rfl) ⟨by simp [upd, addP]; rfl, fun i hi => by simp [addP] at hi, asc_nil, sm_nil⟩
    refine ⟨S2, R2, ?_, by rw [if_pos rfl]; exact b2, by rw [b3 0 (by decide)]; simp [upd], fun j h1 h2 => by rw [b3 j h2]; simp [upd, h1, h2], b4⟩
    rw [hb, e, if_neg (show ¬ bI true = 0 by decide)]
    exact b1
end APR2
