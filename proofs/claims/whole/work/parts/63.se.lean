/-- the least way, node by node -/
def LMn (LK T : List Nat) (ap : Bool) (c : Nat → Int64) (ρ : Nat → Nat) : Prop := ∀ σ : Nat → Nat, Sol LK T ap c σ → ∀ i : Nat, i < 6 → (∀ j : Nat, j < i → c j ≠ 0 → σ j = ρ j) → c i ≠ 0 → ρ i ≤ σ i
def cp6 (c f : Nat → Int64) : Nat → Int64 := fun j => if j < 6 then c j else f j
section SES
variable {G : Nat} {B : Nat → Nat} {ka lc : Int32} {lk : Nat → Int32} {ob sj : Nat → Int64} {LK T : List Nat} {ap : Bool}
theorem se_copy {h : pH} {C : Nat → Nat → Int64} {rw : Nat → Int32} {l : Nat} (hG : 1000 ≤ G) (hl : l < 6) (s : SE h B ka lc lk C ob sj rw) :
    ∃ h2 : pH, f_Se_copyChoices G (B 25) (nI l) h = some (none, h2) ∧ Ch h h2 (seS B) ∧ SE h2 B ka lc lk (upC C (l + 1) (cp6 (C l) (C (l + 1)))) ob sj rw := by
  have lp : ∀ (d F k : Nat) (h : pH) (f : Nat → Int64), d < F → k + d = 6 → SE h B ka lc lk (upC C (l + 1) f) ob sj rw → (∀ j, j < k → f j = C l j) → (∀ j, 6 ≤ j → f j = C (l + 1) j) →
      ∃ h2 : pH, f_Se_copyChoices_b2 G F (B 25) (nI l) (nI k) h = some (none, h2) ∧ Ch h h2 (seS B) ∧ SE h2 B ka lc lk (upC C (l + 1) (cp6 (C l) (C (l + 1)))) ob sj rw := by
    intro d
    induction d with
    | zero =>
      intro F k h f hF hk s h1 h2
      obtain ⟨F, rfl⟩ : ∃ F', F = F' + 1 := ⟨F - 1, by omega⟩
      have : k = 6 := by omega
      subst this
      have e : f = cp6 (C l) (C (l + 1)) := funext fun j => by
        unfold cp6
        split
        · rename_i q; exact h1 j q
        · rename_i q; exact h2 j (by omega)
      subst e
      exact ⟨h, by rw [f_Se_copyChoices_b2_eq, if_pos (by decide)], Ch.rf, s⟩
    | succ d ih =>
      intro F k h f hF hk s h1 h2
      obtain ⟨F, rfl⟩ : ∃ F', F = F' + 1 := ⟨F - 1, by omega⟩
      have s2 := s.uc (l := l + 1) (by omega) (vp_updL f k (C l k))
      rw [upC_u] at s2
      have sc := s.sc (l := l + 1) (i := k) (by omega) (by omega) (C l k)
      rw [upC_s] at sc
      obtain ⟨h3, b1, b2, b3⟩ := ih F (k + 1) _ (vp_updL f k (C l k)) (by omega) (by omega) s2 (fun j hj => by
        by_cases q : j = k
        · subst q; rw [uL_s]
        · rw [uL_n q]; exact h1 j (by omega)) (fun j hj => by rw [uL_n (by omega)]; exact h2 j hj)
      refine ⟨h3, ?_, Ch.tr (SE.chS (by omega)) b2, b3⟩
      have cc := s.c (l := l) (i := k) (by omega) (by omega)
      rw [upC_n (by omega)] at cc
      rw [f_Se_copyChoices_b2_eq, if_neg (show ¬ (6 : Int32) ≤ nI k from nI_ge (b := 6) (by omega) (by omega)), s.f (v := B 27) rfl, Option.bind_some, nI_1, s.ch (by omega), Option.bind_some, Option.bind_some, s.ch (by omega), Option.bind_some, cc, Option.bind_some, sc, Option.bind_some, nI_1, b1]
  rw [f_Se_copyChoices_eq]
  exact lp 6 G 0 h (C (l + 1)) (by omega) (by omega) (by rw [upC_id]; exact s) (fun j hj => absurd hj (by omega)) (fun _ _ => rfl)
theorem se_writeRow {h : pH} {C : Nat → Nat → Int64} {rw : Nat → Int32} {ρ : Nat → Nat} (hG : 1000 ≤ G) (s : SE h B ka lc lk C ob sj rw) (hρ : ∀ i, i < 6 → C 6 i ≠ 0 → Lo (C 6 i) (ρ i)) :
    ∃ (h2 : pH) (rw2 : Nat → Int32), f_Se_writeRow G (B 25) h = some (none, h2) ∧ Ch h h2 (seS B) ∧ SE h2 B ka lc lk C ob sj rw2 ∧ ∀ i, i < 6 → rw2 i = if C 6 i = 0 then -1 else nI (ρ i) := by
  have lp : ∀ (d F k : Nat) (h : pH) (rw : Nat → Int32), d < F → k + d = 6 → SE h B ka lc lk C ob sj rw → (∀ i, i < k → rw i = if C 6 i = 0 then -1 else nI (ρ i)) →
      ∃ (h2 : pH) (rw2 : Nat → Int32), f_Se_writeRow_b2 G F (B 25) (nI k) h = some (none, h2) ∧ Ch h h2 (seS B) ∧ SE h2 B ka lc lk C ob sj rw2 ∧ ∀ i, i < 6 → rw2 i = if C 6 i = 0 then -1 else nI (ρ i) := by
    intro d
    induction d with
    | zero =>
      intro F k h rw hF hk s hr
      obtain ⟨F, rfl⟩ : ∃ F', F = F' + 1 := ⟨F - 1, by omega⟩
      have : k = 6 := by omega
      subst this
      exact ⟨h, rw, by rw [f_Se_writeRow_b2_eq, if_pos (by decide)], Ch.rf, s, hr⟩
    | succ d ih =>
      intro F k h rw hF hk s hr
      obtain ⟨F, rfl⟩ : ∃ F', F = F' + 1 := ⟨F - 1, by omega⟩
      obtain ⟨h3, r3, b1, b2, b3, b4⟩ := ih F (k + 1) _ (upd rw k (if C 6 k = 0 then -1 else nI (ρ k))) (by omega) (by omega) (s.ur _) (fun i hi => by
        simp only [upd]
        by_cases q : i = k
        · rw [if_pos q, q]
        · rw [if_neg q]; exact hr i (by omega))
      refine ⟨h3, r3, ?_, Ch.tr (Ch.u (S := seS B) ⟨37, by omega, by omega, by omega, rfl⟩) b2, b3, b4⟩
      have fin : ∀ x : Int32, x = (if C 6 k = 0 then -1 else nI (ρ k)) → f_Se_writeRow_b43 G (f_Se_writeRow_b2 G F) (B 25) (nI k) (B 37) (nI k) x h = some (none, h3) := fun x hx => by
        subst hx
        rw [f_Se_writeRow_b43_eq, sI_of s.2.2.2.2.2.2.2 (s.1.1 37 (by omega)) (by omega) (by omega), Option.bind_some, nI_1, b1]
      rw [f_Se_writeRow_b2_eq, if_neg (show ¬ (6 : Int32) ≤ nI k from nI_ge (b := 6) (by omega) (by omega)), s.f (v := B 37) rfl, Option.bind_some, s.f (v := B 27) rfl, Option.bind_some, show (6 : Int32) = nI 6 from rfl, s.ch (by omega), Option.bind_some, s.c (l := 6) (by omega) (by omega), Option.bind_some]
      by_cases hz : C 6 k = 0
      · rw [if_pos (lg_0.mpr hz), fin _ (by rw [if_pos hz])]
      · rw [if_neg (fun q => hz (lg_0.mp q)), Option.bind_some, s.ch (by omega), Option.bind_some, s.c (l := 6) (by omega) (by omega), Option.bind_some, cI_of rfl (mg_lowest (hρ k (by omega) hz)), fin _ (by rw [if_neg hz])]
  rw [f_Se_writeRow_eq]
  exact lp 6 G 0 h rw (by omega) (by omega) s (fun i hi => absurd hi (by omega))
/-- settle(level) -/
theorem se_settle (hG : 1000 ≤ G) (hka : ka = bI ap) (hLk : okLk LK) (hlk : rowL lk LK) (hlc : lc = nI LK.length) (hTB : TB ob sj T) :
    ∀ (e level D : Nat) (h : pH) (C : Nat → Nat → Int64) (rw : Nat → Int32), level + e = 6 → e < D → SE h B ka lc lk C ob sj rw → CB (C level) → LPr LK (C level) → (∀ i, i < level → C level i ≠ 0 → ∃ u, u < 46 ∧ PT LK T ap i u (C level)) →
      ∃ (h2 : pH) (C2 : Nat → Nat → Int64) (rw2 : Nat → Int32) (b : Bool), f_Se_settle G D (B 25) (nI level) h = some (some (.int (bI b)), h2) ∧ Ch h h2 (seS B) ∧ SE h2 B ka lc lk C2 ob sj rw2 ∧ (∀ i, i ≤ level → C2 i = C i) ∧ (b = false → ∀ ρ, ¬ Sol LK T ap (C level) ρ) ∧ (b = true → ∃ ρ, Sol LK T ap (C level) ρ ∧ LMn LK T ap (C level) ρ ∧ ∀ i, i < 6 → rw2 i = if C level i = 0 then -1 else nI (ρ i)) := by
  intro e
  induction e with
  | zero =>
    intro level D h C rw hlv hD s hcb hlp hpt
    obtain ⟨D, rfl⟩ : ∃ D', D = D' + 1 := ⟨D - 1, by omega⟩
    have : level = 6 := by omega
    subst this
    -- each choice is one term
    have ex : ∀ i, ∃ u, i < 6 → C 6 i ≠ 0 → PT LK T ap i u (C 6) ∧ tb (C 6 i) u = true := fun i => by
      by_cases hi : i < 6
      · by_cases h0 : C 6 i = 0
        · exact ⟨0, fun _ q => absurd h0 q⟩
        · obtain ⟨u, _, hu⟩ := hpt i hi h0
          obtain ⟨t, _, t2⟩ := tb_nz.mp h0
          exact ⟨u, fun _ _ => ⟨hu, by rw [← hu.2.2 t t2]; exact t2⟩⟩
      · exact ⟨0, fun q => absurd q hi⟩
    obtain ⟨ρ, hρ⟩ := Classical.axiomOfChoice ex
    have sol : Sol LK T ap (C 6) ρ := by
      refine ⟨fun i hi h0 => (hρ i hi h0).2, fun n hn => ?_, fun hp i j hi hj hn h0 h9 => ?_⟩
      · have ⟨⟨o1, o2, o3⟩, h40, h41, _⟩ := hLk.2 n hn
        have p1 := hρ (n / 4096 - 40) (by omega) (hlp n hn).1
        have p2 := hρ (n % 64 - 40) (by omega) (hlp n hn).2
        obtain ⟨u, u1, u2⟩ := (p1.1.1 n hn).1 rfl _ p2.2
        rw [tb_lN (Nat.pow_lt_pow_right (by decide) (tb_lt p1.2)), Nat.testBit_two_pow, decide_eq_true_eq] at u1
        rw [u1]; exact u2
      · have p1 := hρ i hi h0
        have p2 := hρ j hj h9
        exact fun q => p1.1.2.1 hp j hj (Ne.symm hn) _ p2.2 q.symm
    obtain ⟨h2, rw2, b1, b2, b3, b4⟩ := se_writeRow (G := G) (ρ := ρ) hG s (fun i hi h0 => ⟨tb_lt (hρ i hi h0).2, (hρ i hi h0).2, fun j hj => by
      cases q : tb (C 6 i) j
      · rfl
      · have := (hρ i hi h0).1.2.2 j q; omega⟩)
    refine ⟨h2, C, rw2, true, ?_, b2, b3, fun _ _ => rfl, fun q => (by cases q), fun _ => ⟨ρ, sol, fun σ hσ i hi _ h0 => ?_, b4⟩⟩
    · rw [f_Se_settle_eq, f_Se_settle_rec_eq, if_neg (by decide), cV_of s.is b1]; rfl
    · rw [(hρ i hi h0).1.2.2 _ (hσ.1 i hi h0)]; exact Nat.le_refl _
  | succ e ih =>
    intro level D h C rw hlv hD s hcb hlp hpt
    obtain ⟨D, rfl⟩ : ∃ D', D = D' + 1 := ⟨D - 1, by omega⟩
    have hlv6 : level < 6 := by omega
    rw [f_Se_settle_eq, f_Se_settle_rec_eq, if_pos (show nI level < (6 : Int32) from nI_lt (b := 6) hlv6 (by omega)), s.f (v := B 27) rfl, Option.bind_some, s.ch (by omega), Option.bind_some, s.c (by omega) hlv6, Option.bind_some]
    by_cases h0 : C level level = 0
    · rw [if_pos (lg_0.mpr h0)]
      obtain ⟨h1, a1, a2, a3⟩ := se_copy (G := G) (l := level) hG hlv6 s
      have ec : ∀ i, i < 6 → cp6 (C level) (C (level + 1)) i = C level i := fun i hi => if_pos hi
      have ns : NS LK T ap (C level) (cp6 (C level) (C (level + 1))) := ⟨fun i hi => ⟨by rw [ec i hi], fun t ht => by rw [ec i hi] at ht; exact ht⟩, fun ρ hρ => ⟨fun i hi q => by rw [ec i hi] at q ⊢; exact hρ.1 i hi q, hρ.2.1, fun hp i j hi hj hn q1 q2 => by
        rw [ec i hi] at q1
        rw [ec j hj] at q2
        exact hρ.2.2 hp i j hi hj hn q1 q2⟩⟩
      obtain ⟨h2, C2, rw2, b, b1, b2, b3, b4, b5, b6⟩ := ih (level + 1) D h1 _ rw (by omega) (by omega) a3 (by rw [upC_s]; exact ns.cb hcb) (by rw [upC_s]; exact ns.lp hLk hlp) (fun i hi q => by
        rw [upC_s] at q ⊢
        rw [ec i (by omega)] at q
        have hil : i < level := by
          rcases Nat.lt_or_ge i level with q2 | q2
          · exact q2
          · have : i = level := by omega
            subst this; exact absurd h0 q
        obtain ⟨u, u1, u2⟩ := hpt i hil q
        exact ⟨u, u1, u2.mono hLk (by omega) (fun j hj => (ns.1 j hj).2)⟩)
      rw [upC_s] at b5 b6
      refine ⟨h2, C2, rw2, b, ?_, a2.tr b2, b3, fun i hi => (b4 i (by omega)).trans (upC_n (by omega)), fun q ρ hρ => b5 q ρ (ns.2 ρ hρ), fun q => ?_⟩
      · rw [cV_of s.is a1, nI_1, cI_of a3.is b1, if_pos (isZ_bI b)]
      · obtain ⟨ρ, r1, r2, r3⟩ := b6 q
        refine ⟨ρ, ns.back r1, fun σ hσ i hi hj hz => r2 σ (ns.2 σ hσ) i hi (fun j hji hjz => hj j hji (by rw [ec j (by omega)] at hjz; exact hjz)) (by rw [ec i hi]; exact hz), fun i hi => by rw [r3 i hi, ec i hi]⟩
    · rw [if_neg (fun q => h0 (lg_0.mp q)), cI_of rfl lo_bitCount]
      -- the loop over the terms that are left
      have lp : ∀ (d F : Nat) (left : Int64) (h : pH) (C1 : Nat → Nat → Int64) (rw : Nat → Int32), d < F → pcn left = d → SE h B ka lc lk C1 ob sj rw → (∀ i, i ≤ level → C1 i = C i) → (∀ t, tb left t = true → tb (C level level) t = true) → (∀ ρ, Sol LK T ap (C level) ρ → tb left (ρ level) = true) →
          ∃ (h2 : pH) (C2 : Nat → Nat → Int64) (rw2 : Nat → Int32) (b : Bool), f_Se_settle_b46 G (f_Se_settle G D) F (B 25) (nI level) left (nI d) h = some (some (.int (bI b)), h2) ∧ Ch h h2 (seS B) ∧ SE h2 B ka lc lk C2 ob sj rw2 ∧ (∀ i, i ≤ level → C2 i = C i) ∧ (b = false → ∀ ρ, ¬ Sol LK T ap (C level) ρ) ∧ (b = true → ∃ ρ, Sol LK T ap (C level) ρ ∧ LMn LK T ap (C level) ρ ∧ ∀ i, i < 6 → rw2 i = if C level i = 0 then -1 else nI (ρ i)) := by
        intro d
        induction d with
        | zero =>
          intro F left h C1 rw hF hd s hC1 hsub hall
          obtain ⟨F, rfl⟩ : ∃ F', F = F' + 1 := ⟨F - 1, by omega⟩
          have z0 := pcn_z.mp hd
          subst z0
          exact ⟨h, C1, rw, false, by rw [f_Se_settle_b46_eq, if_pos (by decide)]; rfl, Ch.rf, s, hC1, fun _ ρ hρ => absurd (hall ρ hρ) (by rw [tb_0]; decide), fun q => (by cases q)⟩
        | succ d ihd =>
          intro F left h C1 rw hF hd s hC1 hsub hall
          obtain ⟨F, rfl⟩ : ∃ F', F = F' + 1 := ⟨F - 1, by omega⟩
          have h64 := pcn_le left
          have z0 : left ≠ 0 := fun q => by rw [pcn_z.mpr q] at hd; omega
          obtain ⟨t0, ht0⟩ := Lo.ex z0
          have t46 := hcb level hlv6 t0 (hsub t0 ht0.2.1)
          have pd := pcn_drop z0
          rw [← drop_eq z0] at pd
          obtain ⟨h1, a1, a2, a3⟩ := se_copy (G := G) (l := level) hG hlv6 s
          have c1l : C1 level = C level := hC1 level (Nat.le_refl _)
          have ec : ∀ i, i < 6 → cp6 (C1 level) (C1 (level + 1)) i = C level i := fun i hi => by rw [← c1l]; exact if_pos hi
          have sc := a3.sc (l := level + 1) (i := level) (by omega) hlv6 (left &&& -left)
          rw [upC_s] at sc
          have s2 := a3.uc (l := level + 1) (by omega) (vp_updL (cp6 (C1 level) (C1 (level + 1))) level (left &&& -left))
          rw [upC_u] at s2
          -- the choices with the term alone
          have e1 : vp_updL (cp6 (C1 level) (C1 (level + 1))) level (left &&& -left) level = lN (2 ^ t0) := by rw [uL_s, low_eq ht0]
          have e2 : ∀ i, i < 6 → i ≠ level → vp_updL (cp6 (C1 level) (C1 (level + 1))) level (left &&& -left) i = C level i := fun i hi q => by rw [uL_n q, ec i hi]
          generalize hcx : vp_updL (cp6 (C1 level) (C1 (level + 1))) level (left &&& -left) = cx at *
          have tbx : ∀ t, tb (cx level) t = decide (t0 = t) := fun t => by
            rw [e1, tb_lN (Nat.pow_lt_pow_right (by decide) ht0.1), Nat.testBit_two_pow]
          have xz : cx level ≠ 0 := tb_nz.mpr ⟨t0, ht0.1, by rw [tbx, decide_eq_true rfl]⟩
          have e3 : ∀ i, i < 6 → (cx i = 0 ↔ C level i = 0) := fun i hi => by
            by_cases q : i = level
            · subst q; exact ⟨fun q => absurd q xz, fun q => absurd q h0⟩
            · rw [e2 i hi q]
          have e4 : ∀ i, i < 6 → ∀ t, tb (cx i) t = true → tb (C level i) t = true := fun i hi t ht => by
            by_cases q : i = level
            · subst q
              rw [tbx, decide_eq_true_eq] at ht
              subst ht
              exact hsub _ ht0.2.1
            · rw [e2 i hi q] at ht; exact ht
          have so1 : ∀ ρ, Sol LK T ap (C level) ρ → ρ level = t0 → Sol LK T ap cx ρ := fun ρ hρ ht => ⟨fun i hi q => by
            by_cases q2 : i = level
            · subst q2; rw [tbx, ht, decide_eq_true rfl]
            · rw [e2 i hi q2] at q ⊢; exact hρ.1 i hi q, hρ.2.1, fun hp i j hi hj hn q1 q2 => hρ.2.2 hp i j hi hj hn (fun q => q1 ((e3 i hi).mpr q)) (fun q => q2 ((e3 j hj).mpr q))⟩
          have so2 : ∀ ρ, Sol LK T ap cx ρ → Sol LK T ap (C level) ρ ∧ ρ level = t0 := fun ρ hρ => ⟨⟨fun i hi q => e4 i hi _ (hρ.1 i hi (fun q2 => q ((e3 i hi).mp q2))), hρ.2.1, fun hp i j hi hj hn q1 q2 => hρ.2.2 hp i j hi hj hn (fun q => q1 ((e3 i hi).mp q)) (fun q => q2 ((e3 j hj).mp q))⟩, by
            have := hρ.1 level hlv6 xz
            rw [tbx, decide_eq_true_eq] at this
            exact this.symm⟩
          have cbx : CB cx := fun i hi t ht => hcb i hi t (e4 i hi t ht)
          have lpx : LPr LK cx := fun n hn => by
            have ⟨⟨o1, o2, o3⟩, h40, h41, _⟩ := hLk.2 n hn
            exact ⟨fun q => (hlp n hn).1 ((e3 _ (by omega)).mp q), fun q => (hlp n hn).2 ((e3 _ (by omega)).mp q)⟩
          -- the next term
          have nxt : ∀ (h2 : pH) (C2 : Nat → Nat → Int64) (rw2 : Nat → Int32), Ch h h2 (seS B) → SE h2 B ka lc lk C2 ob sj rw2 → (∀ i, i ≤ level → C2 i = C i) → (∀ ρ, ¬ Sol LK T ap cx ρ) →
              ∃ (h3 : pH) (C3 : Nat → Nat → Int64) (rw3 : Nat → Int32) (b : Bool), f_Se_settle_b110 G (f_Se_settle G D) (f_Se_settle_b46 G (f_Se_settle G D) F) (B 25) (nI level) (left ^^^ (left &&& -left)) (nI (d + 1)) h2 = some (some (.int (bI b)), h3) ∧ Ch h h3 (seS B) ∧ SE h3 B ka lc lk C3 ob sj rw3 ∧ (∀ i, i ≤ level → C3 i = C i) ∧ (b = false → ∀ ρ, ¬ Sol LK T ap (C level) ρ) ∧ (b = true → ∃ ρ, Sol LK T ap (C level) ρ ∧ LMn LK T ap (C level) ρ ∧ ∀ i, i < 6 → rw3 i = if C level i = 0 then -1 else nI (ρ i)) := fun h2 C2 rw2 hc s2 hC2 hno => by
            obtain ⟨h3, C3, rw3, b, b1, b2, b3, b4, b5, b6⟩ := ihd F (left ^^^ (left &&& -left)) h2 C2 rw2 (by omega) (by omega) s2 hC2 (fun t ht => by
              rw [tb_dropx ht0, Bool.and_eq_true] at ht; exact hsub t ht.1) (fun ρ hρ => by
              rw [tb_dropx ht0, hall ρ hρ, Bool.true_and, decide_eq_true_eq]
              exact fun q => hno ρ (so1 ρ hρ q))
            exact ⟨h3, C3, rw3, b, by rw [f_Se_settle_b110_eq, pk_m1, b1], hc.tr b2, b3, b4, b5, b6⟩
          obtain ⟨h3, c2, b, b1, b2, b3, b4, b5⟩ := se_narrowL (G := G) (L := level) (u := t0) (T := T) (ap := ap) hG (show level + 1 < 7 by omega) hlv6 hka hLk hlk hlc hTB (C := C1) cbx lpx t46 e1 s2
          have hch := (a2.tr (SE.chS (B := B) (l := 28 + (level + 1)) (by omega) (h := h1) (e := .inl (1, 6, .inr (.inl cx))))).tr b2
          have hC3 : ∀ i, i ≤ level → upC C1 (level + 1) c2 i = C i := fun i hi => by rw [upC_n (by omega)]; exact hC1 i hi
          rw [f_Se_settle_b46_eq, if_neg (nI_nle (by omega) (by omega)), cV_of s.is a1, a3.f (v := B 27) rfl, Option.bind_some, nI_1, a3.ch (by omega), Option.bind_some, sc, Option.bind_some, s2.f (v := B 27) rfl, Option.bind_some, s2.ch (by omega), Option.bind_some, cI_of s2.is b1]
          cases b
          · rw [if_pos (show bI false = 0 from rfl)]
            exact nxt h3 _ rw hch b3 hC3 (b4 rfl)
          · rw [if_neg (show ¬ bI true = 0 by decide)]
            obtain ⟨n1, n2⟩ := b5 rfl
            obtain ⟨h4, C4, rw4, b', d1, d2, d3, d4, d5, d6⟩ := ih (level + 1) D h3 _ rw (by omega) (by omega) b3 (by rw [upC_s]; exact n1.cb cbx) (by rw [upC_s]; exact n1.lp hLk lpx) (fun i hi q => by
              rw [upC_s] at q ⊢
              by_cases q2 : i = level
              · subst q2; exact ⟨t0, t46, n2⟩
              · obtain ⟨u, u1, u2⟩ := hpt i (by omega) (fun q3 => q (((n1.1 i (by omega)).1).mpr ((e3 i (by omega)).mpr q3)))
                exact ⟨u, u1, u2.mono hLk (by omega) (fun j hj t ht => e4 j hj t ((n1.1 j hj).2 t ht))⟩)
            rw [upC_s] at d5 d6
            rw [cI_of b3.is d1]
            have hC4 : ∀ i, i ≤ level → C4 i = C i := fun i hi => (d4 i (by omega)).trans (hC3 i hi)
            cases b'
            · rw [if_pos (show bI false = 0 from rfl)]
              exact nxt h4 C4 rw4 (hch.tr d2) d3 hC4 (fun ρ hρ => d5 rfl ρ (n1.2 ρ hρ))
            · rw [if_neg (show ¬ bI true = 0 by decide)]
              obtain ⟨ρ, r1, r2, r3⟩ := d6 rfl
              have ⟨sρ, lρ⟩ := so2 ρ (n1.back r1)
              refine ⟨h4, C4, rw4, true, rfl, hch.tr d2, d3, hC4, fun q => (by cases q), fun _ => ⟨ρ, sρ, fun σ hσ i hi hj hz => ?_, fun i hi => ?_⟩⟩
              · rcases Nat.lt_trichotomy i level with q | q | q
                · obtain ⟨u, u1, u2⟩ := hpt i q hz
                  rw [u2.2.2 _ (sρ.1 i hi hz), u2.2.2 _ (hσ.1 i hi hz)]; exact Nat.le_refl _
                · subst q
                  rw [lρ]
                  rcases Nat.lt_or_ge (σ i) t0 with q2 | q2
                  · have h8 := hall σ hσ
                    rw [ht0.2.2 _ q2] at h8; cases h8
                  · exact q2
                · have h8 : σ level = t0 := (hj level q h0).trans lρ
                  refine r2 σ (n1.2 σ (so1 σ hσ h8)) i hi (fun j hji hjz => hj j hji (fun q3 => hjz (((n1.1 j (by omega)).1).mpr ((e3 j (by omega)).mpr q3)))) (fun q3 => hz ((e3 i hi).mp (((n1.1 i hi).1).mp q3)))
              · rw [r3 i hi]
                have e5 : c2 i = 0 ↔ C level i = 0 := ((n1.1 i hi).1).trans (e3 i hi)
                by_cases q : C level i = 0
                · rw [if_pos q, if_pos (e5.mpr q)]
                · rw [if_neg q, if_neg (fun q2 => q (e5.mp q2))]
      exact lp (pcn (C level level)) G (C level level) h C rw (by have := pcn_le (C level level); omega) rfl s (fun _ _ => rfl) (fun t ht => ht) (fun ρ hρ => hρ.1 level hlv6 h0)
end SES
