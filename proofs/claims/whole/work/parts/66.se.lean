section SEG
variable {G : Nat} {B : Nat → Nat} {ka lc : Int32} {ob sj : Nat → Int64} {rw : Nat → Int32} {lk : Nat → Int32} {P T : List Nat} {op : Int64} {ap : Bool}
/-- start(open) -/
theorem se_start {C : Nat → Nat → Int64} {h : pH} (hG : 1000 ≤ G) (hP : okL P) (hTB : TB ob sj T) (hop : ∀ t, tb op t = true → t < 46) (hka : ka = bI ap) (s : SE h B ka lc lk C ob sj rw) (hg : Gr h (B 9) (B 20) P) :
    ∃ (h2 : pH) (C2 : Nat → Nat → Int64) (LK2 : List Nat) (lk2 : Nat → Int32) (lc2 : Int32) (b : Bool), f_Se_start G (B 25) op h = some (some (.int (bI b)), h2) ∧ Ch h h2 (seS B) ∧ SE h2 B ka lc2 lk2 C2 ob sj rw ∧ (b = false → ∀ ρ, ¬ FSg P P T op ap ρ) ∧ (b = true → lc2 = nI LK2.length ∧ rowL lk2 LK2 ∧ SI P T op ap P.length (C2 0) LK2) := by
  have hP30 := hg.2.2.2.2.1
  have nz : ∀ i, i < 6 → (tb (nds P) (40 + i) = stb 2 P (40 + i)) := fun i hi => by rw [tb_nds hP, decide_eq_true (by omega), Bool.true_and]
  have st : f_Se_start G (B 25) op h = if lg_cmp (nds P) 0 = 0 then f_Se_start_b31 G (B 25) op (B 28) (nds P) h else (if lg_cmp op 0 = 0 then (if isZ (0 : Int32) = true then some (some (.int (0 : Int32)), h) else none) else f_Se_start_b31 G (B 25) op (B 28) (nds P) h) := by
    rw [f_Se_start_eq, s.f (v := B 27) rfl, Option.bind_some, show (0 : Int32) = nI 0 from rfl, s.ch (l := 0) (by omega), Option.bind_some, s.f (v := B 9) rfl, Option.bind_some, cJ_of hg.is (gr_nodes (by omega) hg hP.sm)]
  have main : (nds P ≠ 0 → op ≠ 0) → ∃ (h2 : pH) (C2 : Nat → Nat → Int64) (LK2 : List Nat) (lk2 : Nat → Int32) (lc2 : Int32) (b : Bool), f_Se_start_b31 G (B 25) op (B 28) (nds P) h = some (some (.int (bI b)), h2) ∧ Ch h h2 (seS B) ∧ SE h2 B ka lc2 lk2 C2 ob sj rw ∧ (b = false → ∀ ρ, ¬ FSg P P T op ap ρ) ∧ (b = true → lc2 = nI LK2.length ∧ rowL lk2 LK2 ∧ SI P T op ap P.length (C2 0) LK2) := fun hne => by
    have lp : ∀ (d F i : Nat) (h : pH) (c : Nat → Int64), d < F → i + d = 6 → SE h B ka lc lk (upC C 0 c) ob sj rw → Gr h (B 9) (B 20) P → (∀ j, j < i → c j = if stb 2 P (40 + j) = true then op else 0) →
        ∃ (h2 : pH) (C2 : Nat → Nat → Int64) (LK2 : List Nat) (lk2 : Nat → Int32) (lc2 : Int32) (b : Bool), f_Se_start_b34 G F (B 25) op (B 28) (nds P) (nI i) h = some (some (.int (bI b)), h2) ∧ Ch h h2 (seS B) ∧ SE h2 B ka lc2 lk2 C2 ob sj rw ∧ (b = false → ∀ ρ, ¬ FSg P P T op ap ρ) ∧ (b = true → lc2 = nI LK2.length ∧ rowL lk2 LK2 ∧ SI P T op ap P.length (C2 0) LK2) := by
      intro d
      induction d with
      | zero =>
        intro F i h c hF hi s hg hc
        obtain ⟨F, rfl⟩ : ∃ F', F = F' + 1 := ⟨F - 1, by omega⟩
        have : i = 6 := by omega
        subst this
        have s1 := s.uf ka (nI 0)
        have hnode : ∀ i, i < 6 → stb 2 P (40 + i) = true → op ≠ 0 := fun i hi q => hne (tb_nz.mpr ⟨40 + i, by omega, by rw [nz i hi]; exact q⟩)
        have c0 : ∀ i, i < 6 → (c i ≠ 0 ↔ stb 2 P (40 + i) = true) := fun i hi => by
          rw [hc i hi]
          split
          · rename_i q; exact ⟨fun _ => q, fun _ => hnode i hi q⟩
          · rename_i q; exact ⟨fun q2 => absurd rfl q2, fun q2 => absurd q2 q⟩
        have hcb : CB c := fun i hi t ht => by
          rw [hc i hi] at ht
          by_cases q : stb 2 P (40 + i) = true
          · rw [if_pos q] at ht; exact hop t ht
          · rw [if_neg q, tb_0] at ht; cases ht
        have hsol : ∀ ρ, Sol [] T ap c ρ ↔ FSg P (P.take 0) T op ap ρ := fun ρ => by
          constructor
          · rintro ⟨h1, h2, h3⟩
            refine ⟨fun i hi q => ?_, fun n hn => absurd hn List.not_mem_nil, fun hp i j hi hj hn q1 q2 => h3 hp i j hi hj hn ((c0 i hi).mpr q1) ((c0 j hj).mpr q2)⟩
            have := h1 i hi ((c0 i hi).mpr q)
            rw [hc i hi, if_pos q] at this
            exact this
          · rintro ⟨h1, h2, h3⟩
            refine ⟨fun i hi q => ?_, fun n hn => absurd hn List.not_mem_nil, fun hp i j hi hj hn q1 q2 => h3 hp i j hi hj hn ((c0 i hi).mp q1) ((c0 j hj).mp q2)⟩
            have q2 := (c0 i hi).mp q
            rw [hc i hi, if_pos q2]
            exact h1 i hi q2
        have si : SI P T op ap 0 c [] := ⟨c0, hcb, ⟨by simp, fun n hn => absurd hn List.not_mem_nil⟩, by simp, fun n hn => absurd hn List.not_mem_nil, hsol⟩
        obtain ⟨h2, c2, LK2, lk2, b, b1, b2, b3, b4, b5⟩ := se_start77 (G := G) (C := C) hG hP hP30 hTB hop hka P.length G 0 _ c [] lk (by omega) (by omega) si rowL_nil s1 (hg.keep (Ch.u (S := seS B) ⟨25, by omega, by omega, by omega, rfl⟩) (nS s.1 (by omega)) (nS s.1 (by omega)))
        refine ⟨h2, upC C 0 c2, LK2, lk2, _, b, ?_, Ch.tr (Ch.u (S := seS B) ⟨25, by omega, by omega, by omega, rfl⟩) b2, b3, b4, fun q => ⟨rfl, (b5 q).1, by rw [upC_s]; exact (b5 q).2⟩⟩
        rw [f_Se_start_b34_eq, if_pos (by decide), oP_of s.2.1 (s.1.1 25 (by omega)) (Nat.le_of_ble_eq_true rfl), Option.bind_some, ← b1]
        rfl
      | succ d ih =>
        intro F i h c hF hi s hg hc
        obtain ⟨F, rfl⟩ : ∃ F', F = F' + 1 := ⟨F - 1, by omega⟩
        have fin : ∀ x : Int64, x = (if stb 2 P (40 + i) = true then op else 0) → ∃ (h2 : pH) (C2 : Nat → Nat → Int64) (LK2 : List Nat) (lk2 : Nat → Int32) (lc2 : Int32) (b : Bool), f_Se_start_b62 G (f_Se_start_b34 G F) (B 25) op (B 28) (nds P) (nI i) (B 28) (nI i) x h = some (some (.int (bI b)), h2) ∧ Ch h h2 (seS B) ∧ SE h2 B ka lc2 lk2 C2 ob sj rw ∧ (b = false → ∀ ρ, ¬ FSg P P T op ap ρ) ∧ (b = true → lc2 = nI LK2.length ∧ rowL lk2 LK2 ∧ SI P T op ap P.length (C2 0) LK2) := fun x hx => by
          have sc := s.sc (l := 0) (i := i) (by omega) (by omega) x
          rw [upC_s] at sc
          have s2 := s.uc (l := 0) (by omega) (vp_updL c i x)
          rw [upC_u] at s2
          have ch0 : Ch h (hU h (B (28 + 0)) (.inl (1, 6, .inr (.inl (vp_updL c i x))))) (seS B) := SE.chS (by omega)
          obtain ⟨h3, C3, LK3, lk3, lc3, b, d1, d2, d3, d4, d5⟩ := ih F (i + 1) _ _ (by omega) (by omega) s2 (hg.keep ch0 (nS s.1 (by omega)) (nS s.1 (by omega))) (fun j hj => by
            by_cases q : j = i
            · subst q; rw [uL_s]; exact hx
            · rw [uL_n q]; exact hc j (by omega))
          refine ⟨h3, C3, LK3, lk3, lc3, b, ?_, ch0.tr d2, d3, d4, d5⟩
          have sc : sJ h (B 28) (nI i) x = some (hU h (B (28 + 0)) (.inl (1, 6, .inr (.inl (vp_updL c i x))))) := sc
          rw [f_Se_start_b62_eq, sc, Option.bind_some, nI_1, d1]
        rw [f_Se_start_b34_eq, if_neg (show ¬ (6 : Int32) ≤ nI i from nI_ge (b := 6) (by omega) (by omega)), show (40 : Int32) = nI 40 from rfl, nI_add, cI_of rfl (mg_isIn (by omega)), nz i (by omega)]
        cases e : stb 2 P (40 + i)
        · rw [if_pos (show (if false = true then (1 : Int32) else 0) = 0 from rfl)]
          exact fin 0 (by rw [e]; rfl)
        · rw [if_neg (show ¬ (if true = true then (1 : Int32) else 0) = 0 by decide)]
          exact fin op (by rw [e]; rfl)
    rw [f_Se_start_b31_eq]
    exact lp 6 G 0 h (C 0) (by omega) (by omega) (by rw [upC_id]; exact s) hg (fun j hj => absurd hj (by omega))
  by_cases h1 : nds P = 0
  · rw [st, if_pos (lg_0.mpr h1)]
    exact main (fun q => absurd h1 q)
  · rw [st, if_neg (fun q => h1 (lg_0.mp q))]
    by_cases h2 : op = 0
    · rw [if_pos (lg_0.mpr h2)]
      refine ⟨h, C, [], lk, lc, false, rfl, Ch.rf, s, fun _ ρ hρ => ?_, fun q => (by cases q)⟩
      obtain ⟨t, t1, t2⟩ := tb_nz.mp h1
      rw [tb_nds hP, Bool.and_eq_true, decide_eq_true_eq] at t2
      have t46 := stb_lt hP t2.2
      have := hρ.1 (t - 40) (by omega) (by rw [show 40 + (t - 40) = t by omega]; exact t2.2)
      rw [h2, tb_0] at this; cases this
    · rw [if_neg (fun q => h2 (lg_0.mp q))]
      exact main (fun _ => h2)
end SEG
/-- the least such row -/
def LMf (P T : List Nat) (op : Int64) (ap : Bool) (ρ : Nat → Nat) : Prop := ∀ σ : Nat → Nat, FSg P P T op ap σ → ∀ i : Nat, i < 6 → (∀ j : Nat, j < i → stb 2 P (40 + j) = true → σ j = ρ j) → stb 2 P (40 + i) = true → ρ i ≤ σ i
/-- the class's row for ρ, -1 where there is no node -/
def rowX (f : Nat → Int32) (ρ : Nat → Nat) (P : List Nat) : Prop := ∀ i : Nat, i < 6 → f i = if stb 2 P (40 + i) = true then nI (ρ i) else -1
section SEH
variable {G : Nat} {h : pH} {B : Nat → Nat} {gs : Nat → List Nat} {cc : Int32} {cl bst : Nat → Int32}
theorem RC.se (hr : RC h B gs cc cl bst) : ∃ (ka lc : Int32) (lk : Nat → Int32) (C : Nat → Nat → Int64) (rw : Nat → Int32), SE h B ka lc lk C (fun _ => 0) (fun _ => 0) rw := by
  obtain ⟨b, r1, a1, a2, a3, ⟨f4, a4⟩, ⟨k5, l5, a5⟩, ⟨f6, a6⟩, a7, a8, a9, a10, ⟨f11, a11⟩, _⟩ := hr
  have ex : ∀ i : Nat, ∃ f : Nat → Int64, i < 7 → h.2 (B (28 + i)) = .inl (1, 6, .inr (.inl f)) := fun i => by
    by_cases q : i < 7
    · obtain ⟨f, hf⟩ := a8 i q; exact ⟨f, fun _ => hf⟩
    · exact ⟨fun _ => 0, fun q2 => absurd q2 q⟩
  obtain ⟨C, hC⟩ := Classical.axiomOfChoice ex
  exact ⟨k5, l5, f6, C, f11, b, a5, a6, a7, hC, a9, a10, a11⟩
theorem SE.rc {h2 : pH} {ka lc : Int32} {lk : Nat → Int32} {C : Nat → Nat → Int64} {rw : Nat → Int32} (hr : RC h B gs cc cl bst) (hc : Ch h h2 (seS B)) (s : SE h2 B ka lc lk C (fun _ => 0) (fun _ => 0) rw) : RC h2 B gs cc cl bst := by
  obtain ⟨b, r1, a1, a2, a3, ⟨f4, a4⟩, ⟨k5, l5, a5⟩, ⟨f6, a6⟩, a7, a8, a9, a10, ⟨f11, a11⟩, ⟨b12, a12⟩, ⟨f13, a13⟩, ⟨f14, a14⟩, a15, ⟨f16, a16⟩⟩ := hr
  obtain ⟨sb, s1, s2, s3, s4, s5, s6, s7⟩ := s
  have k : ∀ j : Nat, j < 44 → (j < 25 ∨ 38 ≤ j) → h2.2 (B j) = h.2 (B j) := fun j hj hn => hc.2 _ (by
    rintro ⟨i, i1, i2, _, i4⟩
    exact b.ne (by omega) (by omega) (by omega) i4)
  exact ⟨sb, fun i hi => (r1 i hi).keep hc (nS b (by omega)) (nS b (by omega)), (k 43 (by omega) (by omega)).trans a1, (k 22 (by omega) (by omega)).trans a2, (k 23 (by omega) (by omega)).trans a3, ⟨f4, (k 24 (by omega) (by omega)).trans a4⟩, ⟨ka, lc, s1⟩, ⟨lk, s2⟩, s3, fun i hi => ⟨C i, s4 i hi⟩, s5, s6, ⟨rw, s7⟩, ⟨b12, (k 38 (by omega) (by omega)).trans a12⟩, ⟨f13, (k 39 (by omega) (by omega)).trans a13⟩, ⟨f14, (k 40 (by omega) (by omega)).trans a14⟩, (k 41 (by omega) (by omega)).trans a15, ⟨f16, (k 42 (by omega) (by omega)).trans a16⟩⟩
theorem seB {x : Nat} (h : seS B x) : inB B x := by
  obtain ⟨i, i1, i2, _, i4⟩ := h
  exact ⟨i, by omega, i4⟩
/-- find(wanted, target, open, apart) -/
theorem mg_find {p t : Nat} {op : Int64} {ap : Bool} (hG : 1000 ≤ G) (hr : RC h B gs cc cl bst) (hp : p < 6) (ht : t < 6) (oP1 : okL (gs p)) (oT : okL (gs t)) (hop : ∀ x, tb op x = true → x < 46) :
    ∃ (h2 : pH) (f : Nat → Int32) (b : Bool), f_Se_find G (B 25) (B p) (B t) op (bI ap) h = some (some (.int (bI b)), h2) ∧ Ch h h2 (fun x => inB B x ∧ x ≠ B 24) ∧ RC h2 B (upG gs 9 (gs p)) cc cl bst ∧ h2.2 (B 37) = .inl (0, 6, .inl f) ∧ (b = false → ∀ ρ, ¬ FSg (gs p) (gs p) (gs t) op ap ρ) ∧ (b = true → ∃ ρ, FSg (gs p) (gs p) (gs t) op ap ρ ∧ LMf (gs p) (gs t) op ap ρ ∧ rowX f ρ (gs p)) := by
  obtain ⟨h1, a1, a2, a3⟩ := gr_become (G := G) (by omega) (hr.2.1 9 (by omega)) (hr.2.1 p (by omega)) (hr.1.ne (by omega) (by omega) (by omega)) (hr.1.ne (by omega) (by omega) (by omega)) (hr.1.ne (by omega) (by omega) (by omega)) (hr.1.ne (by omega) (by omega) (by omega))
  have r1 := hr.set (by omega) a2 a3
  obtain ⟨ka, lc, lk, C, rw, s0⟩ := hr.se
  obtain ⟨ka1, lc1, lk1, C1, rw1, s1⟩ := r1.se
  have s2 := s1.uf (bI ap) lc1
  have c2 : Ch h1 (hU h1 (B 25) (.inr (1, [.ref (B 9), .int (bI ap), .ref (B 26), .int lc1, .ref (B 27), .ref (B 35), .ref (B 36), .ref (B 37)]))) (seS B) := Ch.u ⟨25, by omega, by omega, by omega, rfl⟩
  have gt1 := r1.2.1 t (by omega)
  rw [upG_n (by omega)] at gt1
  have gt2 := gt1.keep c2 (nS r1.1 (by omega)) (nS r1.1 (by omega))
  obtain ⟨h3, b1, b2, b3⟩ := se_mark (G := G) hG (by omega) oT s2 gt2
  have g9 : Gr h3 (B 9) (B 20) (gs p) := (a3.keep c2 (nS r1.1 (by omega)) (nS r1.1 (by omega))).keep b2 (nS r1.1 (by omega)) (nS r1.1 (by omega))
  obtain ⟨h4, C4, LK, lk4, lc4, b, d1, d2, d3, d4, d5⟩ := se_start (G := G) (op := op) (ap := ap) hG oP1 (TB_T oT) hop rfl b3 g9
  have gt4 := (gt2.keep b2 (nS r1.1 (by omega)) (nS r1.1 (by omega))).keep d2 (nS r1.1 (by omega)) (nS r1.1 (by omega))
  have ch4 : Ch h1 h4 (seS B) := (c2.tr b2).tr d2
  have e9 : gR h (B 25) 1 0 = some (B 9) := s0.f rfl
  have z1 : oZ h1 (B 25) 1 1 (bI ap) = some (hU h1 (B 25) (.inr (1, [.ref (B 9), .int (bI ap), .ref (B 26), .int lc1, .ref (B 27), .ref (B 35), .ref (B 36), .ref (B 37)]))) := by
    show (if isZ (bI ap) then oP h1 (B 25) 1 1 (.int (bI ap)) else none) = _
    rw [if_pos (isZ_bI ap), oP_of s1.2.1 (s1.1.1 25 (by omega)) (Nat.le_of_ble_eq_true rfl)]
    rfl
  have sub : ∀ x, seS B x → inB B x ∧ x ≠ B 24 := fun x hx => ⟨seB hx, fun q => nS r1.1 (show 24 < 25 by omega) (q ▸ hx)⟩
  have ca : Ch h h1 (fun x => inB B x ∧ x ≠ B 24) := a2.mono (fun x hx => ⟨inB_g (i := 9) (by omega) x hx, fun q => by
    subst q
    exact hr.1.nc (i := 9) (j := 24) (by omega) (by omega) (by omega) (by omega) hx⟩)
  -- the end
  have fin : ∀ (h5 : pH) (C5 : Nat → Nat → Int64) (rw5 : Nat → Int32) (b : Bool), Ch h4 h5 (seS B) → SE h5 B (bI ap) lc4 lk4 C5 (obT (gs t)) (sjT (gs t)) rw5 → ∃ h6 : pH, f_Se_find_b40 G (B 25) (B t) (bI b) h5 = some (some (.int (bI b)), h6) ∧ Ch h h6 (fun x => inB B x ∧ x ≠ B 24) ∧ RC h6 B (upG gs 9 (gs p)) cc cl bst ∧ h6.2 (B 37) = .inl (0, 6, .inl rw5) := fun h5 C5 rw5 b hc s5 => by
    obtain ⟨h6, e1, e2, e3⟩ := se_unmark (G := G) hG (by omega) oT s5 (gt4.keep hc (nS r1.1 (by omega)) (nS r1.1 (by omega)))
    have ch6 : Ch h1 h6 (seS B) := (ch4.tr hc).tr e2
    refine ⟨h6, ?_, ca.tr (ch6.mono sub), SE.rc r1 ch6 e3, e3.2.2.2.2.2.2.2⟩
    rw [f_Se_find_b40_eq, cV_of s5.is e1, if_pos (isZ_bI b)]
  have st : f_Se_find G (B 25) (B p) (B t) op (bI ap) h = if bI b = 0 then f_Se_find_b40 G (B 25) (B t) (bI false) h4 else (cI (oC h4 (B 25) 1) (f_Se_settle G 8 (B 25) (0 : Int32) h4) fun v16 h13 => if v16 = 0 then ((f_Se_find_b39 G (f_Se_find_b40 G)) (B 25) (B t) h13) else ((f_Se_find_b40 G) (B 25) (B t) (1 : Int32) h13)) := by
    rw [f_Se_find_eq, e9, Option.bind_some, cV_of (hr.2.1 9 (by omega)).is a1, z1, Option.bind_some, cV_of s2.is b1, cI_of b3.is d1]
    rfl
  cases b
  · obtain ⟨h6, e1, e2, e3, e4⟩ := fin h4 C4 rw1 false Ch.rf d3
    exact ⟨h6, rw1, false, by rw [st, if_pos (show bI false = 0 from rfl), e1], e2, e3, e4, d4, fun q => (by cases q)⟩
  · obtain ⟨k1, k2, k3⟩ := d5 rfl
    obtain ⟨i1, i2, i3, i4, i5, i6⟩ := id k3
    have hlp : LPr LK (C4 0) := fun n hn => by
      have ⟨⟨o1, o2, o3⟩, h40, h41, _⟩ := i3.2 n hn
      refine ⟨(i1 _ (by omega)).mpr ?_, (i1 _ (by omega)).mpr ?_⟩
      · rw [show 40 + (n / 4096 - 40) = n / 4096 by omega]; exact st_s (i5 n hn)
      · rw [show 40 + (n % 64 - 40) = n % 64 by omega]; exact st_o (i5 n hn)
    obtain ⟨h5, C5, rw5, b', f1, f2, f3, f4, f5, f6⟩ := se_settle (G := G) (T := gs t) (ap := ap) hG rfl i3 k2 k1 (TB_T oT) 6 0 8 h4 C4 rw1 (by omega) (by omega) d3 i2 hlp (fun i hi => absurd hi (by omega))
    have f1 : f_Se_settle G 8 (B 25) (0 : Int32) h4 = some (some (.int (bI b')), h5) := f1
    obtain ⟨h6, e1, e2, e3, e4⟩ := fin h5 C5 rw5 b' f2 f3
    have tk : (gs p).take (gs p).length = gs p := List.take_of_length_le (Nat.le_refl _)
    rw [tk] at i6
    refine ⟨h6, rw5, b', ?_, e2, e3, e4, fun q ρ hρ => f5 q ρ ((i6 ρ).mpr hρ), fun q => ?_⟩
    · rw [st, if_neg (show ¬ bI true = 0 by decide), cI_of d3.is f1]
      cases b'
      · rw [if_pos (show bI false = 0 from rfl), f_Se_find_b39_eq]; exact e1
      · rw [if_neg (show ¬ bI true = 0 by decide)]; exact e1
    · obtain ⟨ρ, g1, g2, g3⟩ := f6 q
      refine ⟨ρ, (i6 ρ).mp g1, fun σ hσ i hi hj hz => g2 σ ((i6 σ).mpr hσ) i hi (fun j hji hjz => hj j hji ((i1 j (by omega)).mp hjz)) ((i1 i hi).mpr hz), fun i hi => ?_⟩
      rw [g3 i hi]
      by_cases q2 : C4 0 i = 0
      · rw [if_pos q2, if_neg (fun q3 => (i1 i hi).mpr q3 q2)]
      · rw [if_neg q2, if_pos ((i1 i hi).mp q2)]
end SEH
