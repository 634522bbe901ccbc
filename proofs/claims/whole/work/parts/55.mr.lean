/-! PURE: merge and clash, of the class -/
def mk1 (bs a b : List Nat) : List Nat := addP (fun n => decide (n ∈ a) && decide (n ∈ b)) id [] bs
def mk2 (bs a b : List Nat) : List Nat := addP (fun n => decide (n ∉ bs)) id (mk1 bs a b) a
def mrg (bs a b : List Nat) : List Nat := addP (fun n => decide (n ∉ bs)) id (mk2 bs a b) b
theorem asc_sub {l a : List Nat} (hl : Asc l) (ha : Asc a) (h : ∀ n ∈ l, n ∈ a) : l.length ≤ a.length := by
  have e : l = a.filter (fun n => decide (n ∈ l)) := asc_ext hl (asc_filter _ ha) fun m => by
    rw [List.mem_filter, decide_eq_true_eq]; exact ⟨fun q => ⟨h m q, q⟩, fun q => q.2⟩
  rw [e]; exact List.length_filter_le _ _
theorem mk1_asc {bs a b : List Nat} : Asc (mk1 bs a b) := addP_asc _ _ asc_nil
theorem mk2_asc {bs a b : List Nat} : Asc (mk2 bs a b) := addP_asc _ _ mk1_asc
theorem mrg_asc {bs a b : List Nat} : Asc (mrg bs a b) := addP_asc _ _ mk2_asc
theorem mk1_sm {bs a b : List Nat} (h : Sm bs) : Sm (mk1 bs a b) := addP_sm sm_nil fun n hn _ => Sm_mem.mp h n hn
theorem mk2_sm {bs a b : List Nat} (h : Sm bs) (ha : Sm a) : Sm (mk2 bs a b) := addP_sm (mk1_sm h) fun n hn _ => Sm_mem.mp ha n hn
theorem mk1_ok {bs a b : List Nat} (h : okL bs) : okL (mk1 bs a b) := addP_ok ok_nil fun n hn _ => h n hn
theorem mk2_ok {bs a b : List Nat} (h : okL bs) (ha : okL a) : okL (mk2 bs a b) := addP_ok (mk1_ok h) fun n hn _ => ha n hn
theorem mrg_ok {bs a b : List Nat} (h : okL bs) (ha : okL a) (hb : okL b) : okL (mrg bs a b) := addP_ok (mk2_ok h ha) fun n hn _ => hb n hn
theorem mk2_sub {bs a b : List Nat} : ∀ n ∈ mk2 bs a b, n ∈ a := fun n hn => by
  rcases (addP_mem _ _).mp hn with h | ⟨k, h1, h2, h3⟩
  · rcases (addP_mem _ _).mp h with q | ⟨k, h1, h2, h3⟩
    · exact absurd q List.not_mem_nil
    · have h3 : k = n := h3
      subst h3
      rw [Bool.and_eq_true] at h2
      exact of_decide_eq_true h2.1
  · have h3 : k = n := h3
    subst h3; exact h1
theorem mk2_len {bs a b : List Nat} (ha : Asc a) : (mk2 bs a b).length ≤ a.length := asc_sub mk2_asc ha mk2_sub
theorem mrg_len {bs a b : List Nat} (ha : Asc a) : (mrg bs a b).length ≤ a.length + b.length := by
  have h1 := mk2_len (bs := bs) (b := b) ha
  have h2 := addP_len1 (p := fun n => decide (n ∉ bs)) (r := id) b (mk2 bs a b) mk2_asc
  unfold mrg
  omega
/-- does side a clash with b at t -/
def clB (bs a b : List Nat) (t : Nat) : Bool := (stb 0 bs t && !stb 0 a t) && b.any (fun n => !decide (n ∈ bs) && (decide (n / 4096 = t) || decide (n % 64 = t)))
/-- is c, twice a term and a side, a clash -/
def clC (bs a b : List Nat) (c : Nat) : Bool := if c % 2 = 0 then clB bs a b (c / 2) else clB bs b a (c / 2)
def clL (bs a b : List Nat) : List Nat := (List.range 92).filter (clC bs a b)
theorem clL_len {bs a b : List Nat} : (clL bs a b).length ≤ 92 := by
  have := List.length_filter_le (clC bs a b) (List.range 92)
  rw [List.length_range] at this; exact this
theorem fl1 (p : Nat → Bool) (n : Nat) : (List.range (n + 1)).filter p = if p n = true then (List.range n).filter p ++ [n] else (List.range n).filter p := by
  rw [List.range_succ, List.filter_append]
  split
  · rename_i h; rw [List.filter_cons_of_pos h, List.filter_nil]
  · rename_i h; rw [List.filter_cons_of_neg h, List.filter_nil, List.append_nil]
theorem fl_len (p : Nat → Bool) (n : Nat) : ((List.range n).filter p).length ≤ n := by
  have := List.length_filter_le p (List.range n)
  rw [List.length_range] at this; exact this
theorem RC.cc2 {h : pH} {B : Nat → Nat} {gs : Nat → List Nat} {cc : Int32} {cl bst : Nat → Int32} (hr : RC h B gs cc cl bst) (c2 : Int32) : RC (hU h (B 43) (.inr (3, [.ref (B 22), .ref (B 6), .ref (B 7), .ref (B 8), .ref (B 23), .int c2, .ref (B 24), .ref (B 25), .ref (B 38)]))) B gs c2 cl bst := by
  obtain ⟨b, r1, r2⟩ := hr
  have k : ∀ j : Nat, j < 43 → ∀ e : pE, (hU h (B 43) e).2 (B j) = h.2 (B j) := fun j hj e => hU_n h e (b.ne (by omega) (by omega) (by omega))
  obtain ⟨a1, a2, a3, ⟨f4, a4⟩, ⟨k5, l5, a5⟩, ⟨f6, a6⟩, a7, a8, a9, a10, ⟨f11, a11⟩, ⟨b12, a12⟩, ⟨f13, a13⟩, ⟨f14, a14⟩, a15, ⟨f16, a16⟩⟩ := r2
  refine ⟨b, fun i hi => (r1 i hi).keep (Ch.u (S := fun x => x = B 43) rfl) (b.ne (by omega) (by omega) (by omega)) (b.ne (by omega) (by omega) (by omega)), hU_s _ _ _, (k 22 (by omega) _).trans a2, (k 23 (by omega) _).trans a3, ⟨f4, (k 24 (by omega) _).trans a4⟩, ⟨k5, l5, (k 25 (by omega) _).trans a5⟩, ⟨f6, (k 26 (by omega) _).trans a6⟩, (k 27 (by omega) _).trans a7, fun i hi => ?_, (k 35 (by omega) _).trans a9, (k 36 (by omega) _).trans a10, ⟨f11, (k 37 (by omega) _).trans a11⟩, ⟨b12, (k 38 (by omega) _).trans a12⟩, ⟨f13, (k 39 (by omega) _).trans a13⟩, ⟨f14, (k 40 (by omega) _).trans a14⟩, (k 41 (by omega) _).trans a15, ⟨f16, (k 42 (by omega) _).trans a16⟩⟩
  obtain ⟨f, h9⟩ := a8 i hi
  exact ⟨f, (k (28 + i) (by omega) _).trans h9⟩
theorem RC.cl2 {h : pH} {B : Nat → Nat} {gs : Nat → List Nat} {cc : Int32} {cl bst : Nat → Int32} (hr : RC h B gs cc cl bst) (c2 : Nat → Int32) : RC (hU h (B 23) (.inl (0, 92, .inl c2))) B gs cc c2 bst := by
  obtain ⟨b, r1, r2⟩ := hr
  have k : ∀ j : Nat, j < 44 → j ≠ 23 → ∀ e : pE, (hU h (B 23) e).2 (B j) = h.2 (B j) := fun j hj hn e => hU_n h e (b.ne (by omega) (by omega) hn)
  obtain ⟨a1, a2, a3, ⟨f4, a4⟩, ⟨k5, l5, a5⟩, ⟨f6, a6⟩, a7, a8, a9, a10, ⟨f11, a11⟩, ⟨b12, a12⟩, ⟨f13, a13⟩, ⟨f14, a14⟩, a15, ⟨f16, a16⟩⟩ := r2
  refine ⟨b, fun i hi => (r1 i hi).keep (Ch.u (S := fun x => x = B 23) rfl) (b.ne (by omega) (by omega) (by omega)) (b.ne (by omega) (by omega) (by omega)), (k 43 (by omega) (by omega) _).trans a1, (k 22 (by omega) (by omega) _).trans a2, hU_s _ _ _, ⟨f4, (k 24 (by omega) (by omega) _).trans a4⟩, ⟨k5, l5, (k 25 (by omega) (by omega) _).trans a5⟩, ⟨f6, (k 26 (by omega) (by omega) _).trans a6⟩, (k 27 (by omega) (by omega) _).trans a7, fun i hi => ?_, (k 35 (by omega) (by omega) _).trans a9, (k 36 (by omega) (by omega) _).trans a10, ⟨f11, (k 37 (by omega) (by omega) _).trans a11⟩, ⟨b12, (k 38 (by omega) (by omega) _).trans a12⟩, ⟨f13, (k 39 (by omega) (by omega) _).trans a13⟩, ⟨f14, (k 40 (by omega) (by omega) _).trans a14⟩, (k 41 (by omega) (by omega) _).trans a15, ⟨f16, (k 42 (by omega) (by omega) _).trans a16⟩⟩
  obtain ⟨f, h9⟩ := a8 i hi
  exact ⟨f, (k (28 + i) (by omega) (by omega) _).trans h9⟩
section MRC
variable {G : Nat} {h : pH} {B : Nat → Nat} {gs : Nat → List Nat} {cc : Int32} {cl bst : Nat → Int32}
theorem tb_m1 (x : Int64) {t : Nat} (ht : t < 64) : tb (x ^^^ (-1 : Int64)) t = !tb x t := by
  have h1 : tb (-1 : Int64) t = true := by
    have : ∀ t, t < 64 → tb (-1 : Int64) t = true := by decide +kernel
    exact this t ht
  rw [tb_xor, h1, Bool.xor_true]
theorem mg_clashTerms {i a b : Nat} (hG : 100 ≤ G) (hr : RC h B gs cc cl bst) (hi : i < 11) (ha : a < 11) (hb : b < 11) (hI : Asc (gs i)) (oI : okL (gs i)) (oA : okL (gs a)) (oB : okL (gs b)) :
    ∃ x : Int64, f_Mg_clashTerms G (B i) (B a) (B b) h = some (some (.long x), h) ∧ ∀ t, t < 46 → tb x t = clB (gs i) (gs a) (gs b) t := by
  have g1 := hr.2.1 i hi
  have g2 := hr.2.1 a ha
  have g3 := hr.2.1 b hb
  refine ⟨_, by rw [f_Mg_clashTerms_eq, cJ_of g1.is (gr_subjects hG g1 oI.sm), cJ_of g2.is (gr_subjects hG g2 oA.sm), cJ_of g3.is (gr_missing hG g3 oB.sm g1 hI oI.sm)], fun t ht => ?_⟩
  rw [tb_and, tb_and, tb_m1 _ (by omega), tb_sbs oI, tb_sbs oA]
  unfold clB
  congr 1
  apply Bool.eq_iff_iff.mpr
  rw [tb_tmm oB, List.any_eq_true]
  constructor
  · rintro ⟨n, h1, h2, h3⟩; exact ⟨n, h1, by simp [h2, h3]⟩
  · rintro ⟨n, h1, h2⟩
    rw [Bool.and_eq_true, Bool.or_eq_true, decide_eq_true_eq, decide_eq_true_eq] at h2
    exact ⟨n, h1, by simpa using h2.1, h2.2⟩
theorem mg_noteClashes {bs a b : List Nat} {x y : Int64} (hG : 100 ≤ G) (hr : RC h B gs cc cl bst) (hx : ∀ t, t < 46 → tb x t = clB bs a b t) (hy : ∀ t, t < 46 → tb y t = clB bs b a t) :
    ∃ (h2 : pH) (cl2 : Nat → Int32), f_Mg_noteClashes G (B 43) x y h = some (none, h2) ∧ Ch h h2 (inB B) ∧ RC h2 B gs (nI (clL bs a b).length) cl2 bst ∧ rowL cl2 (clL bs a b) := by
  have lp : ∀ (d F k : Nat) (h : pH) (cl : Nat → Int32), d < F → k + d = 92 → RC h B gs (nI ((List.range k).filter (clC bs a b)).length) cl bst → rowL cl ((List.range k).filter (clC bs a b)) →
      ∃ (h2 : pH) (cl2 : Nat → Int32), f_Mg_noteClashes_b8 G F (B 43) x y (nI k) h = some (none, h2) ∧ Ch h h2 (inB B) ∧ RC h2 B gs (nI (clL bs a b).length) cl2 bst ∧ rowL cl2 (clL bs a b) := by
    intro d
    induction d with
    | zero =>
      intro F k h cl hF hk hr hl
      obtain ⟨F, rfl⟩ : ∃ F', F = F' + 1 := ⟨F - 1, by omega⟩
      have : k = 92 := by omega
      subst this
      exact ⟨h, cl, by rw [f_Mg_noteClashes_b8_eq, if_pos (by decide)], Ch.rf, hr, hl⟩
    | succ d ih =>
      intro F k h cl hF hk hr hl
      obtain ⟨F, rfl⟩ : ∃ F', F = F' + 1 := ⟨F - 1, by omega⟩
      have e0 := fl1 (clC bs a b) k
      have hle := fl_len (clC bs a b) k
      have st : f_Mg_noteClashes_b8 G (F + 1) (B 43) x y (nI k) h = f_Mg_noteClashes_b27 G (f_Mg_noteClashes_b8 G F) (B 43) x y (nI k) (if k % 2 = 0 then x else y) h := by
        rw [f_Mg_noteClashes_b8_eq, if_neg (show ¬ (92 : Int32) ≤ nI k from nI_ge (b := 92) (by omega) (by omega)), pk_andN (by omega) 1 (by decide)]
        by_cases h2 : k % 2 = 0
        · rw [if_pos (by rw [show k % 2 ^ 1 = k % 2 from rfl, h2]; rfl), if_pos h2]
        · rw [if_neg (nI_ne0 (by omega) (by omega)), if_neg h2]
      have sh : nI k >>> ((1 : Int32) &&& 31) = nI (k / 2) := pk_shrN (by omega) _ 1 (by decide)
      have ec : tb (if k % 2 = 0 then x else y) (k / 2) = clC bs a b k := by
        unfold clC
        split
        · exact hx _ (by omega)
        · exact hy _ (by omega)
      have is := mg_isIn (G := G) (k := k / 2) (x := if k % 2 = 0 then x else y) (h := h) (by omega)
      rw [ec] at is
      rw [st, f_Mg_noteClashes_b27_eq, sh, cI_of rfl is]
      by_cases hc : clC bs a b k = true
      · rw [if_pos hc] at e0
        have r2 := (hr.cl2 (upd cl ((List.range k).filter (clC bs a b)).length (nI k)))
        have r3 := r2.cc2 (nI ((List.range (k + 1)).filter (clC bs a b)).length)
        have r4 := rowL_snoc (n := k) hl
        rw [← e0] at r4
        have e2 : ((List.range k).filter (clC bs a b)).length + 1 = ((List.range (k + 1)).filter (clC bs a b)).length := by rw [e0, List.length_append]; rfl
        obtain ⟨h3, cl3, c1, c2, c3, c4⟩ := ih F (k + 1) _ _ (by omega) (by omega) r3 r4
        refine ⟨h3, cl3, ?_, ((Ch.u (S := inB B) ⟨23, by omega, rfl⟩).tr (Ch.u (S := inB B) ⟨43, by omega, rfl⟩)).tr c2, c3, c4⟩
        rw [if_pos hc, if_neg (by decide), gI_of hr.2.2.1 (hr.1.1 43 (by omega)) rfl, Option.bind_some, hr.f (v := B 23) rfl, Option.bind_some, aL_of hr.2.2.2.2.1 (hr.1.1 23 (by omega)), Option.bind_some, if_neg (nI_ge (by omega) (by omega)), Option.bind_some, Option.bind_some, sI_of hr.2.2.2.2.1 (hr.1.1 23 (by omega)) (by omega) (by omega), Option.bind_some, gI_of r2.2.2.1 (r2.1.1 43 (by omega)) rfl, Option.bind_some, oP_of r2.2.2.1 (r2.1.1 43 (by omega)) (Nat.le_of_ble_eq_true rfl), Option.bind_some, f_Mg_noteClashes_b74_eq, nI_1, nI_1, e2, ← c1]
        rfl
      · rw [if_neg hc] at e0
        obtain ⟨h3, cl3, c1, c2, c3, c4⟩ := ih F (k + 1) h cl (by omega) (by omega) (by rw [e0]; exact hr) (by rw [e0]; exact hl)
        refine ⟨h3, cl3, ?_, c2, c3, c4⟩
        rw [if_neg hc, if_pos rfl, f_Mg_noteClashes_b74_eq, nI_1, c1]
  have r0 := hr.cc2 (nI 0)
  obtain ⟨h3, cl3, c1, c2, c3, c4⟩ := lp 92 G 0 _ cl (by omega) (by omega) r0 rowL_nil
  refine ⟨h3, cl3, ?_, (Ch.u (S := inB B) ⟨43, by omega, rfl⟩).tr c2, c3, c4⟩
  rw [f_Mg_noteClashes_eq, oP_of hr.2.2.1 (hr.1.1 43 (by omega)) (Nat.le_of_ble_eq_true rfl), Option.bind_some, ← c1]
  rfl
/-- the merged facts, drafted -/
theorem mg_drafted {i a b : Nat} (hG : 100 ≤ G) (hr : RC h B gs cc cl bst) (hi : i < 6) (ha : a < 6) (hb : b < 6) (hI : Asc (gs i)) (hA : Asc (gs a)) (hB : Asc (gs b)) (oI : Sm (gs i)) (oA : Sm (gs a)) (oB : Sm (gs b)) :
    ∃ (h2 : pH) (g2 : List Nat), f_Mg_draftMerged G (B 43) (B i) (B a) (B b) h = some (some (.int (bI (decide ((mrg (gs i) (gs a) (gs b)).length ≤ 30)))), h2) ∧ Ch h h2 (inB B) ∧ RC h2 B (upG gs 6 g2) cc cl bst ∧ ((mrg (gs i) (gs a) (gs b)).length ≤ 30 → g2 = mrg (gs i) (gs a) (gs b)) := by
  obtain ⟨h1, a1, a2, a3⟩ := gr_clear (G := G) (hr.2.1 6 (by omega))
  have r1 := hr.set (by omega) a2 a3
  have nc : ∀ {H : pH}, BK H B → ∀ j : Nat, j < 44 → j ≠ 6 → j ≠ 17 → ¬ cel (B 6) (B (11 + 6)) (B j) := fun hb j h1 h2 h3 => hb.nc (by omega) h1 h2 h3
  have gx : ∀ {H : pH} {l : List Nat} {c : Int32} {f f2 : Nat → Int32}, RC H B (upG gs 6 l) c f f2 → ∀ j : Nat, j < 6 → Gr H (B j) (B (11 + j)) (gs j) := fun r j hj => by
    have := r.2.1 j (by omega)
    rw [upG_n (by omega)] at this
    exact this
  have g6 : ∀ {H : pH} {l : List Nat} {c : Int32} {f f2 : Nat → Int32}, RC H B (upG gs 6 l) c f f2 → Gr H (B 6) (B (11 + 6)) l := fun r => by
    have := r.2.1 6 (by omega)
    rw [upG_s] at this
    exact this
  obtain ⟨h2, b1, b2, b3⟩ := gr_insKept (G := G) hG (g6 r1) (gx r1 i hi) oI (gx r1 a ha) hA oA (gx r1 b hb) hB oB (nc r1.1 i (by omega) (by omega) (by omega)) (nc r1.1 (11 + i) (by omega) (by omega) (by omega)) (nc r1.1 a (by omega) (by omega) (by omega)) (nc r1.1 (11 + a) (by omega) (by omega) (by omega)) (nc r1.1 b (by omega) (by omega) (by omega)) (nc r1.1 (11 + b) (by omega) (by omega) (by omega))
  have r2 := r1.set (i := 6) (by omega) b2 b3
  rw [upG_u] at r2
  obtain ⟨h3, g3, c1, c2, c3, c4⟩ := gr_insMiss (G := G) hG (g6 r2) mk1_asc (mk1_sm oI) (gx r2 a ha) oA (gx r2 i hi) hI oI (nc r2.1 a (by omega) (by omega) (by omega)) (nc r2.1 (11 + a) (by omega) (by omega) (by omega)) (nc r2.1 i (by omega) (by omega) (by omega)) (nc r2.1 (11 + i) (by omega) (by omega) (by omega))
  have l2 : (mk2 (gs i) (gs a) (gs b)).length ≤ 30 := Nat.le_trans (mk2_len hA) (hr.2.1 a (by omega)).2.2.2.2.1
  have c1 : f_Gr_insertMissing G (B 6) (B a) (B i) h2 = some (some (.int (bI (decide ((mk2 (gs i) (gs a) (gs b)).length ≤ 30)))), h3) := c1
  have c4 : g3 = mk2 (gs i) (gs a) (gs b) := c4 l2
  subst c4
  rw [decide_eq_true l2] at c1
  have r3 := r2.set (i := 6) (by omega) c2 c3
  rw [upG_u] at r3
  obtain ⟨h4, g4, d1, d2, d3, d4⟩ := gr_insMiss (G := G) hG (g6 r3) mk2_asc (mk2_sm oI oA) (gx r3 b hb) oB (gx r3 i hi) hI oI (nc r3.1 b (by omega) (by omega) (by omega)) (nc r3.1 (11 + b) (by omega) (by omega) (by omega)) (nc r3.1 i (by omega) (by omega) (by omega)) (nc r3.1 (11 + i) (by omega) (by omega) (by omega))
  have r4 := r3.set (i := 6) (by omega) d2 d3
  rw [upG_u] at r4
  have d1 : f_Gr_insertMissing G (B 6) (B b) (B i) h3 = some (some (.int (bI (decide ((mrg (gs i) (gs a) (gs b)).length ≤ 30)))), h4) := d1
  refine ⟨h4, g4, ?_, (((a2.mono (inB_g (by omega))).tr (b2.mono (inB_c (by omega)))).tr (c2.mono (inB_c (by omega)))).tr (d2.mono (inB_c (by omega))), r4, d4⟩
  rw [f_Mg_draftMerged_eq, hr.f (v := B 6) rfl, Option.bind_some, cV_of (hr.2.1 6 (by omega)).is a1, r1.f (v := B 6) rfl, Option.bind_some, cV_of (g6 r1).is b1, r2.f (v := B 6) rfl, Option.bind_some, cI_of (g6 r2).is c1, if_neg (show ¬ bI true = 0 by decide), r3.f (v := B 6) rfl, Option.bind_some, cI_of (g6 r3).is d1]
  cases e : decide ((mrg (gs i) (gs a) (gs b)).length ≤ 30)
  · rw [if_pos (show bI false = 0 from rfl), f_Mg_draftMerged_b45_eq, f_Mg_draftMerged_b46_eq]; rfl
  · rw [if_neg (show ¬ bI true = 0 by decide), f_Mg_draftMerged_b46_eq]; rfl
theorem mg_merge_no {x1 x2 x3 x4 : Int32} (hr : RC h B gs cc cl bst) (hn : ¬ (okG x1 ∧ okG x2 ∧ okG x3 ∧ okG x4)) : f_Mg_merge G (B 43) x1 x2 x3 x4 h = some (.inl 1, h) := by
  rw [f_Mg_merge_eq]
  by_cases h1 : okG x1
  · obtain ⟨i, hi, rfl⟩ := okG_nI h1
    rw [tR_of hr.is (mg_graphAt hr hi)]
    by_cases h2 : okG x2
    · obtain ⟨a, ha, rfl⟩ := okG_nI h2
      rw [tR_of hr.is (mg_graphAt hr ha)]
      by_cases h3 : okG x3
      · obtain ⟨b, hb, rfl⟩ := okG_nI h3
        rw [tR_of hr.is (mg_graphAt hr hb), tR_th hr.is (mg_graphAt_no (fun q => hn ⟨h1, h2, h3, q⟩))]
      · rw [tR_th hr.is (mg_graphAt_no h3)]
    · rw [tR_th hr.is (mg_graphAt_no h2)]
  · rw [tR_th hr.is (mg_graphAt_no h1)]
theorem mg_merge {i a b t : Nat} (hG : 100 ≤ G) (hr : RC h B gs cc cl bst) (hi : i < 6) (ha : a < 6) (hb : b < 6) (ht : t < 6) (hI : Asc (gs i)) (hA : Asc (gs a)) (hB : Asc (gs b)) (oI : okL (gs i)) (oA : okL (gs a)) (oB : okL (gs b)) :
    ∃ (h2 : pH) (g2 : List Nat) (cc2 : Int32) (cl2 : Nat → Int32), f_Mg_merge G (B 43) (nI i) (nI a) (nI b) (nI t) h = some (.inr (some (.int (if (mrg (gs i) (gs a) (gs b)).length ≤ 30 then nI (clL (gs i) (gs a) (gs b)).length else -1))), h2) ∧ Ch h h2 (inB B) ∧
      (if (mrg (gs i) (gs a) (gs b)).length ≤ 30 then RC h2 B (upG (upG gs 6 g2) t (mrg (gs i) (gs a) (gs b))) cc2 cl2 bst ∧ cc2 = nI (clL (gs i) (gs a) (gs b)).length ∧ rowL cl2 (clL (gs i) (gs a) (gs b)) else RC h2 B (upG gs 6 g2) cc cl bst) := by
  obtain ⟨h2, g2, a1, a2, a3, a4⟩ := mg_drafted (G := G) hG hr hi ha hb hI hA hB oI.sm oA.sm oB.sm
  by_cases hf : (mrg (gs i) (gs a) (gs b)).length ≤ 30
  · rw [decide_eq_true hf] at a1
    have e6 := a4 hf
    subst e6
    have nn : ∀ j : Nat, j < 6 → upG gs 6 (mrg (gs i) (gs a) (gs b)) j = gs j := fun j hj => upG_n (by omega)
    obtain ⟨x, b1, b2⟩ := mg_clashTerms (G := G) (i := i) (a := a) (b := b) hG a3 (by omega) (by omega) (by omega) (by rw [nn i hi]; exact hI) (by rw [nn i hi]; exact oI) (by rw [nn a ha]; exact oA) (by rw [nn b hb]; exact oB)
    obtain ⟨y, c1, c2⟩ := mg_clashTerms (G := G) (i := i) (a := b) (b := a) hG a3 (by omega) (by omega) (by omega) (by rw [nn i hi]; exact hI) (by rw [nn i hi]; exact oI) (by rw [nn b hb]; exact oB) (by rw [nn a ha]; exact oA)
    rw [nn i hi, nn a ha, nn b hb] at b2 c2
    obtain ⟨h3, cl3, d1, d2, d3, d4⟩ := mg_noteClashes (G := G) hG a3 b2 c2
    have g6 := d3.2.1 6 (by omega)
    rw [upG_s] at g6
    obtain ⟨h4, e1, e2, e3⟩ := gr_become (G := G) (by omega) (d3.2.1 t (by omega)) g6 (d3.1.ne (by omega) (by omega) (by omega)) (d3.1.ne (by omega) (by omega) (by omega)) (d3.1.ne (by omega) (by omega) (by omega)) (d3.1.ne (by omega) (by omega) (by omega))
    have r4 := d3.set (by omega) e2 e3
    refine ⟨h4, mrg (gs i) (gs a) (gs b), nI (clL (gs i) (gs a) (gs b)).length, cl3, ?_, (a2.tr d2).tr (e2.mono (inB_g (by omega))), by rw [if_pos hf]; exact ⟨r4, rfl, d4⟩⟩
    rw [f_Mg_merge_eq, tR_of hr.is (mg_graphAt hr hi), tR_of hr.is (mg_graphAt hr ha), tR_of hr.is (mg_graphAt hr hb), tR_of hr.is (mg_graphAt hr ht), cI_of hr.is a1, if_neg (show ¬ bI true = 0 by decide), cJ_of rfl b1, cJ_of rfl c1, cV_of a3.is d1, d3.f (v := B 6) rfl, Option.bind_some, cV_of (d3.2.1 t (by omega)).is e1, gI_of r4.2.2.1 (r4.1.1 43 (by omega)) rfl, Option.bind_some, if_pos hf]
  · rw [decide_eq_false hf] at a1
    exact ⟨h2, g2, cc, cl, by rw [f_Mg_merge_eq, tR_of hr.is (mg_graphAt hr hi), tR_of hr.is (mg_graphAt hr ha), tR_of hr.is (mg_graphAt hr hb), tR_of hr.is (mg_graphAt hr ht), cI_of hr.is a1, if_pos (show bI false = 0 from rfl), if_neg hf], a2, by rw [if_neg hf]; exact a3⟩
/-- clash -/
theorem mg_clash_no1 {x1 x2 : Int32} {L : List Nat} (hr : RC h B gs cc cl bst) (hc : cc = nI L.length) (hl : L.length ≤ 92) (hk : ¬ okK L x1) : f_Mg_clash G (B 43) x1 x2 h = some (.inl 1, h) := by
  rw [f_Mg_clash_eq]
  by_cases h1 : x1 < 0
  · rw [if_pos h1, f_Mg_clash_b12_eq]
  · rw [if_neg h1, gI_of hr.2.2.1 (hr.1.1 43 (by omega)) rfl, Option.bind_some, if_neg, f_Mg_clash_b12_eq]
    intro q
    rw [i_lt0] at h1
    rw [hc, i_lt (nI_toInt (by omega))] at q
    exact hk ⟨by omega, q⟩
theorem mg_clash_no2 {k : Nat} {x2 : Int32} {L : List Nat} (hr : RC h B gs cc cl bst) (hc : cc = nI L.length) (hl : L.length ≤ 92) (hk : k < L.length) (hw : ¬ okT x2) : f_Mg_clash G (B 43) (nI k) x2 h = some (.inl 1, h) := by
  rw [f_Mg_clash_eq, if_neg (nI_pos (by omega)), gI_of hr.2.2.1 (hr.1.1 43 (by omega)) rfl, Option.bind_some, hc, if_pos (nI_lt hk (by omega)), tV_th rfl (mg_two_no hw)]
def cshR (L : List Nat) (k w : Nat) : Nat := if w = 0 then L.getD k 0 / 2 else L.getD k 0 % 2
theorem mg_clash {k w : Nat} {L : List Nat} (hr : RC h B gs cc cl bst) (hc : cc = nI L.length) (hl : L.length ≤ 92) (hL : rowL cl L) (hb : ∀ n ∈ L, n < 92) (hk : k < L.length) (hw : w < 2) : f_Mg_clash G (B 43) (nI k) (nI w) h = some (.inr (some (.int (nI (cshR L k w)))), h) := by
  have hT : okT (nI w) := by constructor <;> rw [nI_toInt (by omega)] <;> omega
  have hv := hb _ (mem_getD.mpr ⟨k, hk, rfl⟩)
  have rd : aI h (B 23) (nI k) = some (nI (L.getD k 0)) := by rw [aI_of hr.2.2.2.2.1 (hr.1.1 23 (by omega)) (by omega) (by omega), hL k hk]
  unfold cshR
  rw [f_Mg_clash_eq, if_neg (nI_pos (by omega)), gI_of hr.2.2.1 (hr.1.1 43 (by omega)) rfl, Option.bind_some, hc, if_pos (nI_lt hk (by omega)), tV_of rfl (mg_two hT)]
  by_cases h0 : w = 0
  · rw [if_pos (by rw [h0]; rfl), if_pos h0, hr.f (v := B 23) rfl, Option.bind_some, rd, Option.bind_some, f_Mg_clash_b49_eq, pk_shrN (by omega) _ 1 (by decide)]
  · rw [if_neg (nI_ne0 (by omega) (by omega)), if_neg h0, hr.f (v := B 23) rfl, Option.bind_some, rd, Option.bind_some, f_Mg_clash_b49_eq, pk_andN (by omega) 1 (by decide)]
end MRC
