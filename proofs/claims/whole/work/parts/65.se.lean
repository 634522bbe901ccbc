/-! PURE: find -/
/-- ρ puts a term of op for each node of P, the facts L so become facts of T, terms are apart if they must be -/
def FSg (P L T : List Nat) (op : Int64) (ap : Bool) (ρ : Nat → Nat) : Prop := (∀ i : Nat, i < 6 → stb 2 P (40 + i) = true → tb op (ρ i) = true) ∧ (∀ n ∈ L, ren ρ n ∈ T) ∧ (ap = true → ∀ i j : Nat, i < 6 → j < 6 → i ≠ j → stb 2 P (40 + i) = true → stb 2 P (40 + j) = true → ρ i ≠ ρ j)
/-- the state of start, the first k facts taken in -/
def SI (P T : List Nat) (op : Int64) (ap : Bool) (k : Nat) (c : Nat → Int64) (LK : List Nat) : Prop := (∀ i : Nat, i < 6 → (c i ≠ 0 ↔ stb 2 P (40 + i) = true)) ∧ CB c ∧ okLk LK ∧ LK.length ≤ k ∧ (∀ n ∈ LK, n ∈ P) ∧ ∀ ρ : Nat → Nat, Sol LK T ap c ρ ↔ FSg P (P.take k) T op ap ρ
theorem lim_sol {LK T : List Nat} {ap : Bool} {c : Nat → Int64} {ρ : Nat → Nat} {j : Nat} {x : Int64} (hj : j < 6) (h0 : c j ≠ 0) (hk : c j &&& x ≠ 0) : Sol LK T ap (vp_updL c j (c j &&& x)) ρ ↔ Sol LK T ap c ρ ∧ tb x (ρ j) = true := by
  have e : ∀ i, (vp_updL c j (c j &&& x) i = 0 ↔ c i = 0) := fun i => by
    by_cases q : i = j
    · subst q; rw [uL_s]; exact ⟨fun q => absurd q hk, fun q => absurd q h0⟩
    · rw [uL_n q]
  constructor
  · rintro ⟨h1, h2, h3⟩
    have hjj := h1 j hj (by rw [uL_s]; exact hk)
    rw [uL_s, tb_and, Bool.and_eq_true] at hjj
    refine ⟨⟨fun i hi q => ?_, h2, fun hp a b ha hb hn q1 q2 => h3 hp a b ha hb hn (fun q => q1 ((e a).mp q)) (fun q => q2 ((e b).mp q))⟩, hjj.2⟩
    by_cases q2 : i = j
    · subst q2; exact hjj.1
    · have := h1 i hi (fun q3 => q ((e i).mp q3))
      rw [uL_n q2] at this; exact this
  · rintro ⟨⟨h1, h2, h3⟩, h4⟩
    refine ⟨fun i hi q => ?_, h2, fun hp a b ha hb hn q1 q2 => h3 hp a b ha hb hn (fun q => q1 ((e a).mpr q)) (fun q => q2 ((e b).mpr q))⟩
    have h5 := h1 i hi (fun q3 => q ((e i).mpr q3))
    by_cases q2 : i = j
    · subst q2; rw [uL_s, tb_and, h5, h4]; rfl
    · rw [uL_n q2]; exact h5
theorem FSg1 {P T : List Nat} {op : Int64} {ap : Bool} {ρ : Nat → Nat} {k : Nat} (hk : k < P.length) : FSg P (P.take (k + 1)) T op ap ρ ↔ FSg P (P.take k) T op ap ρ ∧ ren ρ (P.getD k 0) ∈ T := by
  constructor
  · rintro ⟨h1, h2, h3⟩
    exact ⟨⟨h1, fun n hn => h2 n ((mem_take1 hk).mpr (Or.inl hn)), h3⟩, h2 _ ((mem_take1 hk).mpr (Or.inr rfl))⟩
  · rintro ⟨⟨h1, h2, h3⟩, h4⟩
    exact ⟨h1, fun n hn => ((mem_take1 hk).mp hn).elim (h2 n) (fun q => q ▸ h4), h3⟩
theorem FSg_t {P T : List Nat} {op : Int64} {ap : Bool} {ρ : Nat → Nat} (k : Nat) (h : FSg P P T op ap ρ) : FSg P (P.take k) T op ap ρ := ⟨h.1, fun n hn => h.2.1 n (List.mem_of_mem_take hn), h.2.2⟩
theorem SI.lim {P T : List Nat} {op : Int64} {ap : Bool} {k j : Nat} {c : Nat → Int64} {LK : List Nat} {x : Int64} (h : SI P T op ap k c LK) (hk : k < P.length) (hj : j < 6) (hn : stb 2 P (40 + j) = true) (hx : ∀ ρ, FSg P (P.take k) T op ap ρ → (tb x (ρ j) = true ↔ ren ρ (P.getD k 0) ∈ T)) :
    (c j &&& x = 0 → ∀ ρ, ¬ FSg P P T op ap ρ) ∧ (c j &&& x ≠ 0 → SI P T op ap (k + 1) (vp_updL c j (c j &&& x)) LK) := by
  obtain ⟨a1, a2, a3, a4, a5, a6⟩ := h
  have h0 := (a1 j hj).mpr hn
  constructor
  · intro hz ρ hρ
    have h1 := FSg_t k hρ
    have h2 := (a6 ρ).mpr h1
    have h3 : tb (c j &&& x) (ρ j) = true := by
      rw [tb_and, h2.1 j hj h0, (hx ρ h1).mpr (hρ.2.1 _ (mem_getD.mpr ⟨k, hk, rfl⟩))]; rfl
    rw [hz, tb_0] at h3; cases h3
  · intro hz
    refine ⟨fun i hi => ?_, fun i hi t ht => ?_, a3, by omega, a5, fun ρ => ?_⟩
    · by_cases q : i = j
      · subst q; rw [uL_s]; exact ⟨fun _ => hn, fun _ => hz⟩
      · rw [uL_n q]; exact a1 i hi
    · by_cases q : i = j
      · subst q; rw [uL_s, tb_and, Bool.and_eq_true] at ht; exact a2 i hi t ht.1
      · rw [uL_n q] at ht; exact a2 i hi t ht
    · rw [lim_sol hj h0 hz, a6, FSg1 hk]
      constructor
      · rintro ⟨h1, h2⟩; exact ⟨h1, (hx ρ h1).mp h2⟩
      · rintro ⟨h1, h2⟩; exact ⟨h1, (hx ρ h1).mpr h2⟩
section SEF
variable {G : Nat} {B : Nat → Nat} {ka : Int32} {ob sj : Nat → Int64} {rw : Nat → Int32} {P T : List Nat} {op : Int64} {ap : Bool}
/-- takeIn(choice, number) -/
theorem se_takeIn {k : Nat} {c : Nat → Int64} {LK : List Nat} {lk : Nat → Int32} {C : Nat → Nat → Int64} {h : pH} (hG : 1000 ≤ G) (hP : okL P) (hP30 : P.length ≤ 30) (hk : k < P.length) (hTB : TB ob sj T) (hop : ∀ t, tb op t = true → t < 46) (hI : SI P T op ap k c LK) (hlk : rowL lk LK) (s : SE h B ka (nI LK.length) lk (upC C 0 c) ob sj rw) :
    ∃ (h2 : pH) (c2 : Nat → Int64) (LK2 : List Nat) (lk2 : Nat → Int32) (b : Bool), f_Se_takeIn G (B 25) (B 28) (nI (P.getD k 0)) h = some (some (.int (bI b)), h2) ∧ Ch h h2 (seS B) ∧ SE h2 B ka (nI LK2.length) lk2 (upC C 0 c2) ob sj rw ∧ rowL lk2 LK2 ∧ (b = false → ∀ ρ, ¬ FSg P P T op ap ρ) ∧ (b = true → SI P T op ap (k + 1) c2 LK2) := by
  have hmem : P.getD k 0 ∈ P := mem_getD.mpr ⟨k, hk, rfl⟩
  have oN := hP _ hmem
  have n20 := oN.lt
  have ⟨s46, v40, o46⟩ := oN
  have hss := st_s hmem
  have hso := st_o hmem
  have nd : ∀ t : Nat, t < 46 → decide (40 ≤ t ∧ t < 46) = decide (40 ≤ t) := fun t ht => decide_eq_decide.mpr ⟨fun q => q.1, fun q => ⟨q, ht⟩⟩
  have i1 := mg_isNode (G := G) (t := P.getD k 0 / 4096) (h := h) (by omega)
  have i2 := mg_isNode (G := G) (t := P.getD k 0 % 64) (h := h) (by omega)
  rw [nd _ s46] at i1
  rw [nd _ o46] at i2
  have trs : ∀ ρ : Nat → Nat, tr ρ (P.getD k 0 / 4096) = if 40 ≤ P.getD k 0 / 4096 then ρ (P.getD k 0 / 4096 - 40) else P.getD k 0 / 4096 := fun ρ => by
    unfold tr
    by_cases q : 40 ≤ P.getD k 0 / 4096
    · rw [if_pos ⟨q, s46⟩, if_pos q]
    · rw [if_neg (fun x => q x.1), if_neg q]
  have tro : ∀ ρ : Nat → Nat, tr ρ (P.getD k 0 % 64) = if 40 ≤ P.getD k 0 % 64 then ρ (P.getD k 0 % 64 - 40) else P.getD k 0 % 64 := fun ρ => by
    unfold tr
    by_cases q : 40 ≤ P.getD k 0 % 64
    · rw [if_pos ⟨q, o46⟩, if_pos q]
    · rw [if_neg (fun x => q x.1), if_neg q]
  have rp : ∀ ρ : Nat → Nat, FSg P (P.take k) T op ap ρ → ∀ t : Nat, 40 ≤ t → t < 46 → stb 2 P t = true → ρ (t - 40) < 46 := fun ρ hρ t h1 h2 h3 => hop _ (hρ.1 (t - 40) (by omega) (by rw [show 40 + (t - 40) = t by omega]; exact h3))
  have lim : ∀ (j : Nat) (x : Int64), j < 6 → stb 2 P (40 + j) = true → (∀ ρ, FSg P (P.take k) T op ap ρ → (tb x (ρ j) = true ↔ ren ρ (P.getD k 0) ∈ T)) →
      ∃ (h2 : pH) (c2 : Nat → Int64) (b : Bool), f_Se_limit G (B 28) (nI j) x h = some (some (.int (bI b)), h2) ∧ Ch h h2 (seS B) ∧ SE h2 B ka (nI LK.length) lk (upC C 0 c2) ob sj rw ∧ (b = false → ∀ ρ, ¬ FSg P P T op ap ρ) ∧ (b = true → SI P T op ap (k + 1) c2 LK) := fun j x hj hn hx => by
    obtain ⟨h2, c2, b1, b2, b3, b4⟩ := se_limit (G := G) (l := 0) (i := j) (x := x) (by omega) hj s
    rw [upC_s] at b1 b4
    rw [upC_u] at b3
    have hl := hI.lim hk hj hn hx
    refine ⟨h2, c2, decide (c j &&& x ≠ 0), b1, b2, b3, fun q => hl.1 (Classical.byContradiction fun q2 => of_decide_eq_false q q2), fun q => ?_⟩
    rw [b4 (of_decide_eq_true q)]
    exact hl.2 (of_decide_eq_true q)
  have es : 40 ≤ P.getD k 0 / 4096 → nI (P.getD k 0 / 4096) - (40 : Int32) = nI (P.getD k 0 / 4096 - 40) := fun q => pk_sub (b := 40) q
  have eo : 40 ≤ P.getD k 0 % 64 → nI (P.getD k 0 % 64) - (40 : Int32) = nI (P.getD k 0 % 64 - 40) := fun q => pk_sub (b := 40) q
  rw [f_Se_takeIn_eq, cI_of rfl (mg_subj (by omega)), cI_of rfl (mg_verb (by omega)), cI_of rfl (mg_obj (by omega)), cI_of rfl i1]
  by_cases qs : 40 ≤ P.getD k 0 / 4096
  · rw [decide_eq_true qs, if_neg (show ¬ bI true = 0 by decide), f_Se_takeIn_b48_eq, cI_of rfl i1, decide_eq_true qs, if_neg (show ¬ bI true = 0 by decide), cI_of rfl i2]
    by_cases qo : 40 ≤ P.getD k 0 % 64
    · rw [decide_eq_true qo, if_neg (show ¬ bI true = 0 by decide)]
      by_cases qe : P.getD k 0 / 4096 = P.getD k 0 % 64
      · -- a loop
        rw [if_pos (by rw [qe])]
        obtain ⟨r, r1, r2⟩ := se_loops (G := G) hG v40 s
        obtain ⟨h2, c2, b, d1, d2, d3, d4, d5⟩ := lim (P.getD k 0 / 4096 - 40) r (by omega) (by rw [show 40 + (P.getD k 0 / 4096 - 40) = P.getD k 0 / 4096 by omega]; exact hss) (fun ρ hρ => by
          have h46 := rp ρ hρ _ qs s46 hss
          rw [r2, hTB.1 _ _ _ v40 h46]
          unfold ren
          rw [trs, tro, if_pos qs, if_pos qo, ← qe]
          exact ⟨fun q => q.2.2, fun q => ⟨h46, h46, q⟩⟩)
        refine ⟨h2, c2, LK, lk, b, ?_, d2, d3, hlk, d4, d5⟩
        rw [cJ_of s.is r1, es qs, cI_of rfl d1, if_pos (isZ_bI b)]
      · -- a link
        rw [if_neg (fun q => qe ((nI_eq (by omega) (by omega)).mp q))]
        obtain ⟨a1, a2, a3, a4, a5, a6⟩ := hI
        have s2 := s.ul (upd lk LK.length (nI (P.getD k 0)))
        have s3 := s2.uf ka (nI (LK.length + 1))
        have e1 : (LK ++ [P.getD k 0]).length = LK.length + 1 := by rw [List.length_append]; rfl
        have d1 : f_Se_addLink G (B 25) (nI (P.getD k 0)) h = some (some (.int (bI true)), hU (hU h (B 26) (.inl (0, 30, .inl (upd lk LK.length (nI (P.getD k 0)))))) (B 25) (.inr (1, [.ref (B 9), .int ka, .ref (B 26), .int (nI (LK.length + 1)), .ref (B 27), .ref (B 35), .ref (B 36), .ref (B 37)]))) := by
          rw [f_Se_addLink_eq, s.glc, Option.bind_some, s.f (v := B 26) rfl, Option.bind_some, aL_of s.2.2.1 (s.1.1 26 (by omega)), Option.bind_some, if_pos (nI_lt (by omega) (by omega)), Option.bind_some, Option.bind_some, sI_of s.2.2.1 (s.1.1 26 (by omega)) (by omega) (by omega), Option.bind_some, s2.glc, Option.bind_some, oP_of s2.2.1 (s2.1.1 25 (by omega)) (Nat.le_of_ble_eq_true rfl), Option.bind_some, nI_1]
          rfl
        refine ⟨_, c, LK ++ [P.getD k 0], _, true, ?_, Ch.tr (Ch.u (S := seS B) ⟨26, by omega, by omega, by omega, rfl⟩) (Ch.u (S := seS B) ⟨25, by omega, by omega, by omega, rfl⟩), by rw [e1]; exact s3, rowL_snoc hlk, fun q => (by cases q), fun _ => ⟨a1, a2, ⟨by rw [e1]; omega, fun n hn => ?_⟩, by rw [e1]; omega, fun n hn => ?_, fun ρ => ?_⟩⟩
        · rw [cI_of s.is d1, if_pos (isZ_bI true)]
        · rcases List.mem_append.mp hn with q | q
          · exact a3.2 n q
          · rw [List.mem_singleton] at q
            subst q; exact ⟨oN, qs, qo, qe⟩
        · rcases List.mem_append.mp hn with q | q
          · exact a5 n q
          · rw [List.mem_singleton] at q
            subst q; exact hmem
        · rw [FSg1 hk, ← a6]
          have er : ren ρ (P.getD k 0) = 4096 * ρ (P.getD k 0 / 4096 - 40) + 64 * (P.getD k 0 / 64 % 64) + ρ (P.getD k 0 % 64 - 40) := by
            unfold ren
            rw [trs, tro, if_pos qs, if_pos qo]
          rw [er]
          constructor
          · rintro ⟨h1, h2, h3⟩
            exact ⟨⟨h1, fun n hn => h2 n (List.mem_append_left _ hn), h3⟩, h2 _ (List.mem_append_right _ (List.mem_singleton.mpr rfl))⟩
          · rintro ⟨⟨h1, h2, h3⟩, h4⟩
            refine ⟨h1, fun n hn => ?_, h3⟩
            rcases List.mem_append.mp hn with q | q
            · exact h2 n q
            · rw [List.mem_singleton] at q
              subst q; exact h4
    · -- the subject is a node
      rw [decide_eq_false qo, if_pos (show bI false = 0 from rfl), s.f (v := B 36) rfl, Option.bind_some, cJ_of rfl (se_marked s.2.2.2.2.2.2.1 (s.1.1 36 (by omega)) (by omega)), es qs]
      obtain ⟨h2, c2, b, d1, d2, d3, d4, d5⟩ := lim (P.getD k 0 / 4096 - 40) (sj (P.getD k 0 / 64 % 64 * 46 + P.getD k 0 % 64)) (by omega) (by rw [show 40 + (P.getD k 0 / 4096 - 40) = P.getD k 0 / 4096 by omega]; exact hss) (fun ρ hρ => by
        have h46 := rp ρ hρ _ qs s46 hss
        rw [hTB.2 _ _ _ v40 o46]
        unfold ren
        rw [trs, tro, if_pos qs, if_neg qo]
        exact ⟨fun q => q.2, fun q => ⟨h46, q⟩⟩)
      exact ⟨h2, c2, LK, lk, b, by rw [cI_of rfl d1, if_pos (isZ_bI b)], d2, d3, hlk, d4, d5⟩
  · rw [decide_eq_false qs, if_pos (show bI false = 0 from rfl), cI_of rfl i2]
    by_cases qo : 40 ≤ P.getD k 0 % 64
    · -- the object is a node
      rw [decide_eq_true qo, if_neg (show ¬ bI true = 0 by decide), f_Se_takeIn_b48_eq, cI_of rfl i1, decide_eq_false qs, if_pos (show bI false = 0 from rfl), s.f (v := B 35) rfl, Option.bind_some, cJ_of rfl (se_marked s.2.2.2.2.2.1 (s.1.1 35 (by omega)) (by omega)), eo qo]
      obtain ⟨h2, c2, b, d1, d2, d3, d4, d5⟩ := lim (P.getD k 0 % 64 - 40) (ob (P.getD k 0 / 64 % 64 * 46 + P.getD k 0 / 4096)) (by omega) (by rw [show 40 + (P.getD k 0 % 64 - 40) = P.getD k 0 % 64 by omega]; exact hso) (fun ρ hρ => by
        have h46 := rp ρ hρ _ qo o46 hso
        rw [hTB.1 _ _ _ v40 s46]
        unfold ren
        rw [trs, tro, if_neg qs, if_pos qo]
        exact ⟨fun q => q.2, fun q => ⟨h46, q⟩⟩)
      exact ⟨h2, c2, LK, lk, b, by rw [cI_of rfl d1, if_pos (isZ_bI b)], d2, d3, hlk, d4, d5⟩
    · -- no node
      rw [decide_eq_false qo, if_pos (show bI false = 0 from rfl), s.f (v := B 35) rfl, Option.bind_some, cJ_of rfl (se_marked s.2.2.2.2.2.1 (s.1.1 35 (by omega)) (by omega)), cI_of rfl (mg_isIn (by omega))]
      obtain ⟨a1, a2, a3, a4, a5, a6⟩ := hI
      have er : ∀ ρ : Nat → Nat, ren ρ (P.getD k 0) = 4096 * (P.getD k 0 / 4096) + 64 * (P.getD k 0 / 64 % 64) + P.getD k 0 % 64 := fun ρ => by
        unfold ren
        rw [trs, tro, if_neg qs, if_neg qo]
      have et := hTB.1 (P.getD k 0 / 64 % 64) (P.getD k 0 / 4096) (P.getD k 0 % 64) v40 s46
      cases hb : tb (ob (P.getD k 0 / 64 % 64 * 46 + P.getD k 0 / 4096)) (P.getD k 0 % 64)
      · refine ⟨h, c, LK, lk, false, rfl, Ch.rf, s, hlk, fun _ ρ hρ => ?_, fun q => (by cases q)⟩
        have h1 := hρ.2.1 _ hmem
        rw [er] at h1
        rw [et.mpr ⟨o46, h1⟩] at hb
        cases hb
      · refine ⟨h, c, LK, lk, true, rfl, Ch.rf, s, hlk, fun q => (by cases q), fun _ => ⟨a1, a2, a3, by omega, a5, fun ρ => ?_⟩⟩
        rw [a6, FSg1 hk, er]
        exact ⟨fun q => ⟨q, (et.mp hb).2⟩, fun q => q.1⟩
/-- start, behind the first choices -/
theorem se_start77 {C : Nat → Nat → Int64} (hG : 1000 ≤ G) (hP : okL P) (hP30 : P.length ≤ 30) (hTB : TB ob sj T) (hop : ∀ t, tb op t = true → t < 46) (hka : ka = bI ap) :
    ∀ (d F k : Nat) (h : pH) (c : Nat → Int64) (LK : List Nat) (lk : Nat → Int32), d < F → k + d = P.length → SI P T op ap k c LK → rowL lk LK → SE h B ka (nI LK.length) lk (upC C 0 c) ob sj rw → Gr h (B 9) (B 20) P →
      ∃ (h2 : pH) (c2 : Nat → Int64) (LK2 : List Nat) (lk2 : Nat → Int32) (b : Bool), f_Se_start_b77 G F (B 25) (B 28) (nI k) h = some (some (.int (bI b)), h2) ∧ Ch h h2 (seS B) ∧ SE h2 B ka (nI LK2.length) lk2 (upC C 0 c2) ob sj rw ∧ (b = false → ∀ ρ, ¬ FSg P P T op ap ρ) ∧ (b = true → rowL lk2 LK2 ∧ SI P T op ap P.length c2 LK2) := by
  intro d
  induction d with
  | zero =>
    intro F k h c LK lk hF hk hI hlk s hg
    obtain ⟨F, rfl⟩ : ∃ F', F = F' + 1 := ⟨F - 1, by omega⟩
    have hk2 : k = P.length := by omega
    subst hk2
    obtain ⟨a1, a2, a3, a4, a5, a6⟩ := id hI
    have hlp : LPr LK c := fun n hn => by
      have ⟨⟨o1, o2, o3⟩, h40, h41, _⟩ := a3.2 n hn
      refine ⟨(a1 _ (by omega)).mpr ?_, (a1 _ (by omega)).mpr ?_⟩
      · rw [show 40 + (n / 4096 - 40) = n / 4096 by omega]; exact st_s (a5 n hn)
      · rw [show 40 + (n % 64 - 40) = n % 64 by omega]; exact st_o (a5 n hn)
    obtain ⟨h3, c3, b, b1, b2, b3, b4, b5⟩ := se_narrowG (G := G) (l := 0) (wide := 1) (T := T) (ap := ap) hG (by omega) hka a3 hlk rfl hTB (C := C) 282 G 0 63 h c (by omega) (by omega) (by omega) a2 hlp s
    refine ⟨h3, c3, LK, lk, b, ?_, b2, b3, fun q ρ hρ => b4 q ρ ((a6 ρ).mpr (FSg_t _ hρ)), fun q => ⟨hlk, ?_⟩⟩
    · have b1 : f_Se_narrow G (B 25) (B 28) (63 : Int32) (1 : Int32) h = some (some (.int (bI b)), h3) := by rw [f_Se_narrow_eq]; exact b1
      rw [f_Se_start_b77_eq, s.f (v := B 9) rfl, Option.bind_some, cI_of hg.is (gr_count hg), if_pos (nI_le (by omega) (by omega)), cI_of s.is b1, if_pos (isZ_bI b)]
    · obtain ⟨n1, _⟩ := b5 q
      exact ⟨fun i hi => ⟨fun q2 => (a1 i hi).mp (fun q3 => q2 (((n1.1 i hi).1).mpr q3)), fun q2 q3 => (a1 i hi).mpr q2 (((n1.1 i hi).1).mp q3)⟩, n1.cb a2, a3, a4, a5, fun ρ => ⟨fun q2 => (a6 ρ).mp (n1.back q2), fun q2 => n1.2 ρ ((a6 ρ).mpr q2)⟩⟩
  | succ d ih =>
    intro F k h c LK lk hF hk hI hlk s hg
    obtain ⟨F, rfl⟩ : ∃ F', F = F' + 1 := ⟨F - 1, by omega⟩
    obtain ⟨h2, c2, LK2, lk2, b, b1, b2, b3, b4, b5, b6⟩ := se_takeIn (G := G) hG hP hP30 (show k < P.length by omega) hTB hop hI hlk s
    have st : f_Se_start_b77 G (F + 1) (B 25) (B 28) (nI k) h = if bI b = 0 then (if isZ (0 : Int32) = true then some (some (.int (0 : Int32)), h2) else none) else f_Se_start_b77 G F (B 25) (B 28) (nI k + 1) h2 := by
      rw [f_Se_start_b77_eq, s.f (v := B 9) rfl, Option.bind_some, cI_of hg.is (gr_count hg), if_neg (nI_ge (by omega) (by omega)), s.f (v := B 9) rfl, Option.bind_some, cI_of hg.is (gr_at hg (by omega)), if_pos (by omega), cI_of s.is b1]
    cases b
    · exact ⟨h2, c2, LK2, lk2, false, by rw [st, if_pos (show bI false = 0 from rfl)]; rfl, b2, b3, b5, fun q => (by cases q)⟩
    · obtain ⟨h3, c3, LK3, lk3, b', d1, d2, d3, d4, d5⟩ := ih F (k + 1) h2 c2 LK2 lk2 (by omega) (by omega) (b6 rfl) b4 b3 (hg.keep b2 (nS s.1 (by omega)) (nS s.1 (by omega)))
      exact ⟨h3, c3, LK3, lk3, b', by rw [st, if_neg (show ¬ bI true = 0 by decide), nI_1, d1], b2.tr d2, d3, d4, d5⟩
end SEF
