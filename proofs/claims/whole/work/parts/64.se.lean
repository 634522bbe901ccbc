/-! PURE: the class's tables -/
def obT (T : List Nat) (c : Nat) : Int64 := orL (fun n => if (n / 64 % 64) * 46 + n / 4096 = c then bt (n % 64) else 0) T
def sjT (T : List Nat) (c : Nat) : Int64 := orL (fun n => if (n / 64 % 64) * 46 + n % 64 = c then bt (n / 4096) else 0) T
theorem TB_T {T : List Nat} (hT : okL T) : TB (obT T) (sjT T) T := by
  constructor
  · intro v s t hv hs
    unfold obT
    rw [tb_orL, List.any_eq_true]
    constructor
    · rintro ⟨n, h1, h2⟩
      have ⟨o1, o2, o3⟩ := hT n h1
      split at h2
      · rename_i q
        rw [tb_bt (by omega), decide_eq_true_eq] at h2
        refine ⟨by omega, ?_⟩
        have e : n / 64 % 64 = v ∧ n / 4096 = s := by
          generalize n / 64 % 64 = a at *
          generalize n / 4096 = b at *
          omega
        have : 4096 * s + 64 * v + t = n := by
          rw [← e.1, ← e.2, h2]
          omega
        rw [this]; exact h1
      · rw [tb_0] at h2; cases h2
    · rintro ⟨h1, h2⟩
      refine ⟨_, h2, ?_⟩
      rw [if_pos (by omega), tb_bt (by omega), decide_eq_true_eq]
      omega
  · intro v o t hv ho
    unfold sjT
    rw [tb_orL, List.any_eq_true]
    constructor
    · rintro ⟨n, h1, h2⟩
      have ⟨o1, o2, o3⟩ := hT n h1
      split at h2
      · rename_i q
        rw [tb_bt (by omega), decide_eq_true_eq] at h2
        refine ⟨by omega, ?_⟩
        have : 4096 * t + 64 * v + o = n := by omega
        rw [this]; exact h1
      · rw [tb_0] at h2; cases h2
    · rintro ⟨h1, h2⟩
      refine ⟨_, h2, ?_⟩
      rw [if_pos (by omega), tb_bt (by omega), decide_eq_true_eq]
      omega
theorem or_0 (x : Int64) : x ||| 0 = x := tb_ext fun t _ => by rw [tb_or, tb_0, Bool.or_false]
theorem obT1 {T : List Nat} {k : Nat} (hk : k < T.length) : vp_updL (obT (T.take k)) ((T.getD k 0 / 64 % 64) * 46 + T.getD k 0 / 4096) (obT (T.take k) ((T.getD k 0 / 64 % 64) * 46 + T.getD k 0 / 4096) ||| bt (T.getD k 0 % 64)) = obT (T.take (k + 1)) := funext fun c => by
  by_cases q : c = (T.getD k 0 / 64 % 64) * 46 + T.getD k 0 / 4096
  · subst q
    rw [uL_s]
    unfold obT
    rw [orL1 _ hk, if_pos rfl]
  · rw [uL_n q]
    unfold obT
    rw [orL1 _ hk, if_neg (fun h => q h.symm), or_0]
theorem sjT1 {T : List Nat} {k : Nat} (hk : k < T.length) : vp_updL (sjT (T.take k)) ((T.getD k 0 / 64 % 64) * 46 + T.getD k 0 % 64) (sjT (T.take k) ((T.getD k 0 / 64 % 64) * 46 + T.getD k 0 % 64) ||| bt (T.getD k 0 / 4096)) = sjT (T.take (k + 1)) := funext fun c => by
  by_cases q : c = (T.getD k 0 / 64 % 64) * 46 + T.getD k 0 % 64
  · subst q
    rw [uL_s]
    unfold sjT
    rw [orL1 _ hk, if_pos rfl]
  · rw [uL_n q]
    unfold sjT
    rw [orL1 _ hk, if_neg (fun h => q h.symm), or_0]
/-- the tables with the facts of L wiped out -/
def wpT (f : Nat → Int64) (cl : Nat → Nat) (L : List Nat) : Nat → Int64 := fun c => if L.any (fun n => decide (cl n = c)) = true then 0 else f c
theorem wpT1 {f : Nat → Int64} {cl : Nat → Nat} {T : List Nat} {k : Nat} (hk : k < T.length) : vp_updL (wpT f cl (T.take k)) (cl (T.getD k 0)) 0 = wpT f cl (T.take (k + 1)) := funext fun c => by
  unfold wpT
  rw [any1 _ hk]
  by_cases q : c = cl (T.getD k 0)
  · rw [q, uL_s, decide_eq_true rfl, Bool.or_true, if_pos rfl]
  · rw [uL_n q, decide_eq_false (fun h => q h.symm), Bool.or_false]
theorem wp_ob {T : List Nat} : wpT (obT T) (fun n => (n / 64 % 64) * 46 + n / 4096) T = fun _ => 0 := funext fun c => by
  unfold wpT
  split
  · rfl
  · rename_i h
    refine tb_ext fun t _ => ?_
    unfold obT
    rw [tb_orL, tb_0]
    cases e : T.any (fun n => tb (if (n / 64 % 64) * 46 + n / 4096 = c then bt (n % 64) else 0) t)
    · rfl
    · obtain ⟨n, h1, h2⟩ := List.any_eq_true.mp e
      refine absurd (List.any_eq_true.mpr ⟨n, h1, ?_⟩) h
      rw [decide_eq_true_eq]
      split at h2
      · assumption
      · rw [tb_0] at h2; cases h2
theorem wp_sj {T : List Nat} : wpT (sjT T) (fun n => (n / 64 % 64) * 46 + n % 64) T = fun _ => 0 := funext fun c => by
  unfold wpT
  split
  · rfl
  · rename_i h
    refine tb_ext fun t _ => ?_
    unfold sjT
    rw [tb_orL, tb_0]
    cases e : T.any (fun n => tb (if (n / 64 % 64) * 46 + n % 64 = c then bt (n / 4096) else 0) t)
    · rfl
    · obtain ⟨n, h1, h2⟩ := List.any_eq_true.mp e
      refine absurd (List.any_eq_true.mpr ⟨n, h1, ?_⟩) h
      rw [decide_eq_true_eq]
      split at h2
      · assumption
      · rw [tb_0] at h2; cases h2
section SEM
variable {G : Nat} {B : Nat → Nat} {ka lc : Int32} {lk : Nat → Int32} {C : Nat → Nat → Int64} {rw : Nat → Int32} {T : List Nat}
theorem chO {h : pH} {e : pE} : Ch h (hU h (B 35) e) (seS B) := Ch.u ⟨35, by omega, by omega, by omega, rfl⟩
theorem chP {h : pH} {e : pE} : Ch h (hU h (B 36) e) (seS B) := Ch.u ⟨36, by omega, by omega, by omega, rfl⟩
theorem nS {h : pH} (b : BK h B) {i : Nat} (hi : i < 25) : ¬ seS B (B i) := by
  rintro ⟨j, h1, h2, _, h4⟩
  exact b.ne (by omega) (by omega) (by omega) h4
/-- mark(target) -/
theorem se_mark {x : Nat} {h : pH} (hG : 1000 ≤ G) (hx : x < 11) (hT : okL T) (s : SE h B ka lc lk C (fun _ => 0) (fun _ => 0) rw) (hg : Gr h (B x) (B (11 + x)) T) :
    ∃ h2 : pH, f_Se_mark G (B 25) (B x) h = some (none, h2) ∧ Ch h h2 (seS B) ∧ SE h2 B ka lc lk C (obT T) (sjT T) rw := by
  have h5 := hg.2.2.2.2.1
  have lp : ∀ (d F k : Nat) (h : pH), d < F → k + d = T.length → SE h B ka lc lk C (obT (T.take k)) (sjT (T.take k)) rw → Gr h (B x) (B (11 + x)) T →
      ∃ h2 : pH, f_Se_mark_b2 G F (B 25) (B x) (nI k) h = some (none, h2) ∧ Ch h h2 (seS B) ∧ SE h2 B ka lc lk C (obT T) (sjT T) rw := by
    intro d
    induction d with
    | zero =>
      intro F k h hF hk s hg
      obtain ⟨F, rfl⟩ : ∃ F', F = F' + 1 := ⟨F - 1, by omega⟩
      rw [List.take_of_length_le (by omega)] at s
      exact ⟨h, by rw [f_Se_mark_b2_eq, cI_of hg.is (gr_count hg), if_pos (nI_le (by omega) (by omega))], Ch.rf, s⟩
    | succ d ih =>
      intro F k h hF hk s hg
      obtain ⟨F, rfl⟩ : ∃ F', F = F' + 1 := ⟨F - 1, by omega⟩
      have oN := hT.at (k := k) (by omega)
      have n20 := oN.lt
      have ⟨o1, o2, o3⟩ := oN
      have s1 := s.uo (obT (T.take (k + 1)))
      have s2 := s1.us (sjT (T.take (k + 1)))
      obtain ⟨h3, b1, b2, b3⟩ := ih F (k + 1) _ (by omega) (by omega) s2 ((hg.keep chO (nS s.1 (by omega)) (nS s.1 (by omega))).keep chP (nS s.1 (by omega)) (nS s.1 (by omega)))
      refine ⟨h3, ?_, (chO.tr chP).tr b2, b3⟩
      have w1 := se_setMarked (G := G) (v := T.getD k 0 / 64 % 64) (t := T.getD k 0 / 4096) (y := obT (T.take k) ((T.getD k 0 / 64 % 64) * 46 + T.getD k 0 / 4096) ||| bt (T.getD k 0 % 64)) s.2.2.2.2.2.1 (s.1.1 35 (by omega)) (by omega)
      rw [obT1 (by omega)] at w1
      have w2 := se_setMarked (G := G) (v := T.getD k 0 / 64 % 64) (t := T.getD k 0 % 64) (y := sjT (T.take k) ((T.getD k 0 / 64 % 64) * 46 + T.getD k 0 % 64) ||| bt (T.getD k 0 / 4096)) s1.2.2.2.2.2.2.1 (s1.1.1 36 (by omega)) (by omega)
      rw [sjT1 (by omega)] at w2
      rw [f_Se_mark_b2_eq, cI_of hg.is (gr_count hg), if_neg (nI_ge (by omega) (by omega)), cI_of hg.is (gr_at hg (by omega)), if_pos (by omega), cI_of rfl (mg_subj (by omega)), cI_of rfl (mg_verb (by omega)), cI_of rfl (mg_obj (by omega)), s.f (v := B 35) rfl, Option.bind_some, Option.bind_some, cJ_of rfl (se_marked s.2.2.2.2.2.1 (s.1.1 35 (by omega)) (by omega)), show (1 : Int64) <<< ((nI (T.getD k 0 % 64)).toInt64 &&& 63) = bt (T.getD k 0 % 64) from rfl, show (1 : Int64) <<< ((nI (T.getD k 0 / 4096)).toInt64 &&& 63) = bt (T.getD k 0 / 4096) from rfl, cV_of rfl w1, s1.f (v := B 36) rfl, Option.bind_some, Option.bind_some, cJ_of rfl (se_marked s1.2.2.2.2.2.2.1 (s1.1.1 36 (by omega)) (by omega)), cV_of rfl w2, nI_1, b1]
  rw [f_Se_mark_eq]
  exact lp T.length G 0 h (by omega) (by omega) s hg
/-- unmark(target) -/
theorem se_unmark {x : Nat} {h : pH} (hG : 1000 ≤ G) (hx : x < 11) (hT : okL T) (s : SE h B ka lc lk C (obT T) (sjT T) rw) (hg : Gr h (B x) (B (11 + x)) T) :
    ∃ h2 : pH, f_Se_unmark G (B 25) (B x) h = some (none, h2) ∧ Ch h h2 (seS B) ∧ SE h2 B ka lc lk C (fun _ => 0) (fun _ => 0) rw := by
  have h5 := hg.2.2.2.2.1
  have lp : ∀ (d F k : Nat) (h : pH), d < F → k + d = T.length → SE h B ka lc lk C (wpT (obT T) (fun n => (n / 64 % 64) * 46 + n / 4096) (T.take k)) (wpT (sjT T) (fun n => (n / 64 % 64) * 46 + n % 64) (T.take k)) rw → Gr h (B x) (B (11 + x)) T →
      ∃ h2 : pH, f_Se_unmark_b2 G F (B 25) (B x) (nI k) h = some (none, h2) ∧ Ch h h2 (seS B) ∧ SE h2 B ka lc lk C (fun _ => 0) (fun _ => 0) rw := by
    intro d
    induction d with
    | zero =>
      intro F k h hF hk s hg
      obtain ⟨F, rfl⟩ : ∃ F', F = F' + 1 := ⟨F - 1, by omega⟩
      rw [List.take_of_length_le (by omega), wp_ob, wp_sj] at s
      exact ⟨h, by rw [f_Se_unmark_b2_eq, cI_of hg.is (gr_count hg), if_pos (nI_le (by omega) (by omega))], Ch.rf, s⟩
    | succ d ih =>
      intro F k h hF hk s hg
      obtain ⟨F, rfl⟩ : ∃ F', F = F' + 1 := ⟨F - 1, by omega⟩
      have oN := hT.at (k := k) (by omega)
      have n20 := oN.lt
      have ⟨o1, o2, o3⟩ := oN
      have s1 := s.uo (wpT (obT T) (fun n => (n / 64 % 64) * 46 + n / 4096) (T.take (k + 1)))
      have s2 := s1.us (wpT (sjT T) (fun n => (n / 64 % 64) * 46 + n % 64) (T.take (k + 1)))
      obtain ⟨h3, b1, b2, b3⟩ := ih F (k + 1) _ (by omega) (by omega) s2 ((hg.keep chO (nS s.1 (by omega)) (nS s.1 (by omega))).keep chP (nS s.1 (by omega)) (nS s.1 (by omega)))
      refine ⟨h3, ?_, (chO.tr chP).tr b2, b3⟩
      have w1 := se_setMarked (G := G) (v := T.getD k 0 / 64 % 64) (t := T.getD k 0 / 4096) (y := 0) s.2.2.2.2.2.1 (s.1.1 35 (by omega)) (by omega)
      rw [wpT1 (cl := fun n => (n / 64 % 64) * 46 + n / 4096) (by omega)] at w1
      have w2 := se_setMarked (G := G) (v := T.getD k 0 / 64 % 64) (t := T.getD k 0 % 64) (y := 0) s1.2.2.2.2.2.2.1 (s1.1.1 36 (by omega)) (by omega)
      rw [wpT1 (cl := fun n => (n / 64 % 64) * 46 + n % 64) (by omega)] at w2
      rw [f_Se_unmark_b2_eq, cI_of hg.is (gr_count hg), if_neg (nI_ge (by omega) (by omega)), cI_of hg.is (gr_at hg (by omega)), if_pos (by omega), s.f (v := B 35) rfl, Option.bind_some, cI_of rfl (mg_verb (by omega)), cI_of rfl (mg_subj (by omega)), cV_of rfl w1, s1.f (v := B 36) rfl, Option.bind_some, cI_of rfl (mg_verb (by omega)), cI_of rfl (mg_obj (by omega)), cV_of rfl w2, nI_1, b1]
  rw [f_Se_unmark_eq]
  refine lp T.length G 0 h (by omega) (by omega) ?_ hg
  have e1 : wpT (obT T) (fun n => (n / 64 % 64) * 46 + n / 4096) (T.take 0) = obT T := rfl
  have e2 : wpT (sjT T) (fun n => (n / 64 % 64) * 46 + n % 64) (T.take 0) = sjT T := rfl
  rw [e1, e2]; exact s
/-- loops(verb) -/
theorem se_loops {v : Nat} {ob sj : Nat → Int64} {h : pH} (hG : 1000 ≤ G) (hv : v < 40) (s : SE h B ka lc lk C ob sj rw) :
    ∃ r : Int64, f_Se_loops G (B 25) (nI v) h = some (some (.long r), h) ∧ ∀ t, tb r t = true ↔ t < 46 ∧ tb (ob (v * 46 + t)) t = true := by
  have lp : ∀ (d F k : Nat) (acc : Int64), d < F → k + d = 46 → (∀ t, tb acc t = true ↔ t < k ∧ tb (ob (v * 46 + t)) t = true) → ∃ r : Int64, f_Se_loops_b5 G F (B 25) (nI v) acc (nI k) h = some (some (.long r), h) ∧ ∀ t, tb r t = true ↔ t < 46 ∧ tb (ob (v * 46 + t)) t = true := by
    intro d
    induction d with
    | zero =>
      intro F k acc hF hk ha
      obtain ⟨F, rfl⟩ : ∃ F', F = F' + 1 := ⟨F - 1, by omega⟩
      have : k = 46 := by omega
      subst this
      exact ⟨acc, by rw [f_Se_loops_b5_eq, if_pos (by decide)], ha⟩
    | succ d ih =>
      intro F k acc hF hk ha
      obtain ⟨F, rfl⟩ : ∃ F', F = F' + 1 := ⟨F - 1, by omega⟩
      obtain ⟨r, b1, b2⟩ := ih F (k + 1) (acc ||| (ob (v * 46 + k) &&& bt k)) (by omega) (by omega) (fun t => by
        rw [tb_or, tb_and, tb_bt (by omega), Bool.or_eq_true, Bool.and_eq_true, decide_eq_true_eq, ha]
        constructor
        · rintro (⟨h1, h2⟩ | ⟨h1, h2⟩)
          · exact ⟨by omega, h2⟩
          · subst h2; exact ⟨by omega, h1⟩
        · rintro ⟨h1, h2⟩
          by_cases q : t = k
          · subst q; exact Or.inr ⟨h2, rfl⟩
          · exact Or.inl ⟨by omega, h2⟩)
      refine ⟨r, ?_, b2⟩
      rw [f_Se_loops_b5_eq, if_neg (show ¬ (46 : Int32) ≤ nI k from nI_ge (b := 46) (by omega) (by omega)), s.f (v := B 35) rfl, Option.bind_some, cJ_of rfl (se_marked s.2.2.2.2.2.1 (s.1.1 35 (by omega)) (by omega)), nI_1, ← b1]
      rfl
  obtain ⟨r, b1, b2⟩ := lp 46 G 0 0 (by omega) (by omega) (fun t => by
    rw [tb_0]
    exact ⟨fun q => (by cases q), fun q => absurd q.1 (by omega)⟩)
  exact ⟨r, by rw [f_Se_loops_eq]; exact b1, b2⟩
/-- limit(choice, i, set) -/
theorem se_limit {l i : Nat} {x : Int64} {ob sj : Nat → Int64} {h : pH} (hl : l < 7) (hi : i < 6) (s : SE h B ka lc lk C ob sj rw) :
    ∃ (h2 : pH) (c2 : Nat → Int64), f_Se_limit G (B (28 + l)) (nI i) x h = some (some (.int (bI (decide (C l i &&& x ≠ 0)))), h2) ∧ Ch h h2 (seS B) ∧ SE h2 B ka lc lk (upC C l c2) ob sj rw ∧ (C l i &&& x ≠ 0 → c2 = vp_updL (C l) i (C l i &&& x)) := by
  rcases se_keepOnly (G := G) (j := i) (x := x) s hl hi with ⟨k1, k2⟩ | ⟨k1, h2, w, k2, k3, k4, k5⟩
  · refine ⟨h, C l, ?_, Ch.rf, by rw [upC_id]; exact s, fun q => absurd k1 q⟩
    rw [f_Se_limit_eq, cI_of rfl k2, if_pos rfl, decide_eq_false (fun n => n k1), f_Se_limit_b15_eq]; rfl
  · refine ⟨h2, _, ?_, k4, k5, fun _ => rfl⟩
    rw [f_Se_limit_eq, cI_of rfl k3, if_neg (fun q => nI_ne_m1 (n := w) (by omega) q.symm), decide_eq_true k1, f_Se_limit_b15_eq]; rfl
end SEM
