/-- what the links of node i ask of the others -/
def PLk (T : List Nat) (i : Nat) (ci : Int64) (c2 : Nat → Int64) (L : List Nat) : Prop := ∀ n ∈ L, (n / 4096 - 40 = i → ∀ t : Nat, tb (c2 (n % 64 - 40)) t = true → ∃ u : Nat, tb ci u = true ∧ 4096 * u + 64 * (n / 64 % 64) + t ∈ T) ∧ (n % 64 - 40 = i → ∀ t : Nat, tb (c2 (n / 4096 - 40)) t = true → ∃ u : Nat, tb ci u = true ∧ 4096 * t + 64 * (n / 64 % 64) + u ∈ T)
theorem PLk.mono {T : List Nat} {i : Nat} {ci : Int64} {c2 c3 : Nat → Int64} {L : List Nat} (h : PLk T i ci c2 L) (hL : ∀ n ∈ L, okN n) (hs : ∀ j : Nat, j < 6 → ∀ t, tb (c3 j) t = true → tb (c2 j) t = true) : PLk T i ci c3 L := fun n hn => by
  have := hL n hn
  unfold okN at this
  exact ⟨fun e t ht => (h n hn).1 e t (hs _ (by omega) t ht), fun e t ht => (h n hn).2 e t (hs _ (by omega) t ht)⟩
section SEL
variable {G : Nat} {B : Nat → Nat} {ka lc : Int32} {lk : Nat → Int32} {ob sj : Nat → Int64} {rw : Nat → Int32} {LK T : List Nat} {ap : Bool}
/-- narrowLinked(choice, i, own) -/
theorem se_linked {l i : Nat} {c : Nat → Int64} (hG : 1000 ≤ G) (hl : l < 7) (hi : i < 6) (hcb : CB c) (hLk : okLk LK) (hlk : rowL lk LK) (hlc : lc = nI LK.length) (hTB : TB ob sj T) (hlp : LPr LK c) {h : pH} {C : Nat → Nat → Int64} (s : SE h B ka lc lk C ob sj rw) (hC : C l = c) :
    NR G B ka lc lk ob sj rw LK T ap l h C c (fun c2 => c2 i = c i ∧ PLk T i (c i) c2 LK) (f_Se_narrowLinked G (B 25) (B (28 + l)) (nI i) (c i) h) := by
  have l30 := hLk.1
  have glc : ∀ {h : pH} {C : Nat → Nat → Int64}, SE h B ka lc lk C ob sj rw → gI h (B 25) 1 3 = some (nI LK.length) := fun s => by rw [← hlc]; exact s.glc
  have lp : ∀ (d F k a : Nat) (h : pH) (c1 : Nat → Int64), d < F → k + d = LK.length → a < 64 → SE h B ka lc lk (upC C l c1) ob sj rw → NS LK T ap c c1 → c1 i = c i → PLk T i (c i) c1 (LK.take k) →
      NR G B ka lc lk ob sj rw LK T ap l h C c (fun c2 => c2 i = c i ∧ PLk T i (c i) c2 LK) (f_Se_narrowLinked_b6 G F (B 25) (B (28 + l)) (nI i) (c i) (nI a) (nI k) h) := by
    intro d
    induction d with
    | zero =>
      intro F k a h c1 hF hk ha s hns hci hp
      obtain ⟨F, rfl⟩ : ∃ F', F = F' + 1 := ⟨F - 1, by omega⟩
      rw [List.take_of_length_le (by omega)] at hp
      exact ⟨h, c1, nI a, by rw [f_Se_narrowLinked_b6_eq, glc s, Option.bind_some, if_pos (nI_le (by omega) (by omega)), f_Se_narrowLinked_b141_eq], Ch.rf, s, Or.inr ⟨a, ha, rfl, hns, hci, hp⟩⟩
    | succ d ih =>
      intro F k a h c1 hF hk ha s hns hci hp
      obtain ⟨F, rfl⟩ : ∃ F', F = F' + 1 := ⟨F - 1, by omega⟩
      have hn : LK.getD k 0 ∈ LK := mem_getD.mpr ⟨k, by omega, rfl⟩
      obtain ⟨oN, hs40, ho40, hso⟩ := hLk.2 _ hn
      have n20 := oN.lt
      have s46 := oN.1
      have v40 := oN.2.1
      have o46 := oN.2.2
      have hlp1 := (hns.lp hLk hlp) _ hn
      have hcb1 := hns.cb hcb
      have es : nI (LK.getD k 0 / 4096) - (40 : Int32) = nI (LK.getD k 0 / 4096 - 40) := pk_sub (b := 40) hs40
      have eo : nI (LK.getD k 0 % 64) - (40 : Int32) = nI (LK.getD k 0 % 64 - 40) := pk_sub (b := 40) ho40
      have rd : aI h (B 26) (nI k) = some (nI (LK.getD k 0)) := by rw [s.glk (by omega), hlk k (by omega)]
      rw [f_Se_narrowLinked_b6_eq, glc s, Option.bind_some, if_neg (nI_ge (by omega) (by omega)), s.f (v := B 26) rfl, Option.bind_some, aL_of s.2.2.1 (s.1.1 26 (by omega)), Option.bind_some, if_neg (show ¬ nI 30 ≤ nI k from nI_ge (by omega) (by omega)), Option.bind_some, rd, Option.bind_some, cI_of rfl (mg_subj (by omega)), s.f (v := B 26) rfl, Option.bind_some, rd, Option.bind_some, cI_of rfl (mg_obj (by omega)), es, eo]
      -- one step more, the choices being c3
      have go : ∀ (h2 : pH) (c3 : Nat → Int64) (a3 : Nat), a3 < 64 → Ch h h2 (seS B) → SE h2 B ka lc lk (upC C l c3) ob sj rw → NS LK T ap c1 c3 → c3 i = c i → ((LK.getD k 0 / 4096 - 40 = i → ∀ t : Nat, tb (c3 (LK.getD k 0 % 64 - 40)) t = true → ∃ u : Nat, tb (c i) u = true ∧ 4096 * u + 64 * (LK.getD k 0 / 64 % 64) + t ∈ T) ∧ (LK.getD k 0 % 64 - 40 = i → ∀ t : Nat, tb (c3 (LK.getD k 0 / 4096 - 40)) t = true → ∃ u : Nat, tb (c i) u = true ∧ 4096 * t + 64 * (LK.getD k 0 / 64 % 64) + u ∈ T)) →
          NR G B ka lc lk ob sj rw LK T ap l h C c (fun c2 => c2 i = c i ∧ PLk T i (c i) c2 LK) (f_Se_narrowLinked_b128 G (f_Se_narrowLinked_b6 G F) (B 25) (B (28 + l)) (nI i) (c i) (nI a3) (nI k) h2) := fun h2 c3 a3 h3 hc s2 hn2 hci2 hq => by
        obtain ⟨h4, c4, w, b1, b2, b3, b4⟩ := ih F (k + 1) a3 h2 c3 (by omega) (by omega) h3 s2 (hns.tr hn2) hci2 (fun n hn => by
          rcases (mem_take1 (by omega)).mp hn with q | q
          · exact (hp.mono (fun n hn => (hLk.2 n (List.mem_of_mem_take hn)).1) (fun j hj => (hn2.1 j hj).2)) n q
          · subst q; exact hq)
        exact ⟨h4, c4, w, by rw [f_Se_narrowLinked_b128_eq, if_pos (nI_pos' (by omega)), nI_1, b1], hc.tr b2, b3, b4⟩
      have fl : (∀ ρ, ¬ Sol LK T ap c1 ρ) → ∀ x : Int32, NR G B ka lc lk ob sj rw LK T ap l h C c (fun c2 => c2 i = c i ∧ PLk T i (c i) c2 LK) (f_Se_narrowLinked_b128 G (f_Se_narrowLinked_b6 G F) (B 25) (B (28 + l)) (nI i) (c i) (x ||| (-1 : Int32)) (nI k) h) := fun hno x =>
        ⟨h, c1, -1, by rw [f_Se_narrowLinked_b128_eq, or_m1, if_neg (by decide)], Ch.rf, s, Or.inl ⟨rfl, fun ρ hρ => hno ρ (hns.2 ρ hρ)⟩⟩
      by_cases h1 : LK.getD k 0 / 4096 - 40 = i
      · rw [if_pos (by rw [h1]), s.f (v := B 35) rfl, Option.bind_some, s.f (v := B 26) rfl, Option.bind_some, rd, Option.bind_some, cI_of rfl (mg_verb (by omega))]
        obtain ⟨r, r1, r2⟩ := se_reach (G := G) (v := LK.getD k 0 / 64 % 64) (y := c i) hG s.2.2.2.2.2.1 (s.1.1 35 (by omega)) v40 (hcb i hi)
        have r3 : ∀ t, tb r t = true ↔ ∃ u, tb (c i) u = true ∧ t < 46 ∧ 4096 * u + 64 * (LK.getD k 0 / 64 % 64) + t ∈ T := fun t => by
          rw [r2]
          constructor
          · rintro ⟨u, u1, u2⟩; exact ⟨u, u1, (hTB.1 _ _ _ v40 (hcb i hi u u1)).mp u2⟩
          · rintro ⟨u, u1, u2⟩; exact ⟨u, u1, (hTB.1 _ _ _ v40 (hcb i hi u u1)).mpr u2⟩
        have hx : ∀ ρ, Sol LK T ap c1 ρ → tb r (ρ (LK.getD k 0 % 64 - 40)) = true := fun ρ hρ => by
          have a1 := hρ.2.1 _ hn
          rw [h1] at a1
          exact (r3 _).mpr ⟨ρ i, by rw [← hci]; exact hρ.1 i hi (by rw [← h1]; exact hlp1.1), hcb1 _ (by omega) _ (hρ.1 _ (by omega) hlp1.2), a1⟩
        rw [cJ_of rfl r1]
        rcases se_keepOnly (G := G) (j := LK.getD k 0 % 64 - 40) (x := r) s hl (by omega) with ⟨k1, k2⟩ | ⟨k1, h2, w, k2, k3, k4, k5⟩
        · rw [upC_s] at k1
          rw [cI_of rfl k2]
          exact fl (ns_none (by omega) hlp1.2 k1 hx) _
        · rw [upC_s] at k1 k5
          rw [upC_u] at k5
          rw [cI_of rfl k3, (or64 a ha w k2).1]
          refine go h2 _ (a ||| w) (or64 a ha w k2).2 k4 k5 (ns_step hlp1.2 k1 hx) (by rw [uL_n (by omega)]; exact hci) ⟨fun _ t ht => ?_, fun q => absurd q (by omega)⟩
          rw [uL_s, tb_and, Bool.and_eq_true] at ht
          obtain ⟨u, u1, _, u3⟩ := (r3 t).mp ht.2
          exact ⟨u, u1, u3⟩
      · rw [if_neg (fun q => h1 ((nI_eq (by omega) (by omega)).mp q))]
        by_cases h2 : LK.getD k 0 % 64 - 40 = i
        · rw [if_pos (by rw [h2]), s.f (v := B 36) rfl, Option.bind_some, s.f (v := B 26) rfl, Option.bind_some, rd, Option.bind_some, cI_of rfl (mg_verb (by omega))]
          obtain ⟨r, r1, r2⟩ := se_reach (G := G) (v := LK.getD k 0 / 64 % 64) (y := c i) hG s.2.2.2.2.2.2.1 (s.1.1 36 (by omega)) v40 (hcb i hi)
          have r3 : ∀ t, tb r t = true ↔ ∃ u, tb (c i) u = true ∧ t < 46 ∧ 4096 * t + 64 * (LK.getD k 0 / 64 % 64) + u ∈ T := fun t => by
            rw [r2]
            constructor
            · rintro ⟨u, u1, u2⟩; exact ⟨u, u1, (hTB.2 _ _ _ v40 (hcb i hi u u1)).mp u2⟩
            · rintro ⟨u, u1, u2⟩; exact ⟨u, u1, (hTB.2 _ _ _ v40 (hcb i hi u u1)).mpr u2⟩
          have hx : ∀ ρ, Sol LK T ap c1 ρ → tb r (ρ (LK.getD k 0 / 4096 - 40)) = true := fun ρ hρ => by
            have a1 := hρ.2.1 _ hn
            rw [h2] at a1
            exact (r3 _).mpr ⟨ρ i, by rw [← hci]; exact hρ.1 i hi (by rw [← h2]; exact hlp1.2), hcb1 _ (by omega) _ (hρ.1 _ (by omega) hlp1.1), a1⟩
          rw [cJ_of rfl r1]
          rcases se_keepOnly (G := G) (j := LK.getD k 0 / 4096 - 40) (x := r) s hl (by omega) with ⟨k1, k2⟩ | ⟨k1, h3, w, k2, k3, k4, k5⟩
          · rw [upC_s] at k1
            rw [cI_of rfl k2]
            exact fl (ns_none (by omega) hlp1.1 k1 hx) _
          · rw [upC_s] at k1 k5
            rw [upC_u] at k5
            rw [cI_of rfl k3, (or64 a ha w k2).1]
            refine go h3 _ (a ||| w) (or64 a ha w k2).2 k4 k5 (ns_step hlp1.1 k1 hx) (by rw [uL_n (by omega)]; exact hci) ⟨fun q => absurd q h1, fun _ t ht => ?_⟩
            rw [uL_s, tb_and, Bool.and_eq_true] at ht
            obtain ⟨u, u1, _, u3⟩ := (r3 t).mp ht.2
            exact ⟨u, u1, u3⟩
        · rw [if_neg (fun q => h2 ((nI_eq (by omega) (by omega)).mp q))]
          exact go h c1 a ha Ch.rf s NS.rf hci ⟨fun q => absurd q h1, fun q => absurd q h2⟩
  rw [f_Se_narrowLinked_eq]
  exact lp LK.length G 0 0 h c (by omega) (by omega) (by omega) (by rw [← hC, upC_id]; exact s) NS.rf rfl (fun n hn => absurd hn (by simp))
end SEL
/-- what settling node L at u has made sure -/
def PT (LK T : List Nat) (ap : Bool) (L u : Nat) (c : Nat → Int64) : Prop := PLk T L (lN (2 ^ u)) c LK ∧ (ap = true → ∀ j : Nat, j < 6 → j ≠ L → ∀ t, tb (c j) t = true → t ≠ u) ∧ ∀ t, tb (c L) t = true → t = u
theorem PT.mono {LK T : List Nat} {ap : Bool} {L u : Nat} {c c2 : Nat → Int64} (h : PT LK T ap L u c) (hk : okLk LK) (hL : L < 6) (hs : ∀ j : Nat, j < 6 → ∀ t, tb (c2 j) t = true → tb (c j) t = true) : PT LK T ap L u c2 := ⟨h.1.mono (fun n hn => (hk.2 n hn).1) hs, fun hp j hj hn t ht => h.2.1 hp j hj hn t (hs j hj t ht), fun t ht => h.2.2 t (hs L hL t ht)⟩
theorem wlow : ∀ w, w < 64 → w ≠ 0 → ∃ i, i < 6 ∧ (w.testBit i = true ∧ ∀ j, j < i → w.testBit j = false) ∧ ∃ w2, w2 < 64 ∧ nI w &&& (nI w - 1) = nI w2 := by
  intro w hw h0
  have h1 : ∀ w, w < 64 → w ≠ 0 → ∃ i, i < 6 ∧ (w.testBit i = true ∧ ∀ j, j < i → w.testBit j = false) := by decide +kernel
  have h2 : ∀ w, w < 64 → nI w &&& (nI w - 1) = nI (w &&& (w - 1)) ∧ (w &&& (w - 1)) < 64 := by decide +kernel
  obtain ⟨i, i1, i2⟩ := h1 w hw h0
  exact ⟨i, i1, i2, _, (h2 w hw).2, (h2 w hw).1⟩
section SEW
variable {G : Nat} {B : Nat → Nat} {ka lc : Int32} {lk : Nat → Int32} {ob sj : Nat → Int64} {rw : Nat → Int32} {LK T : List Nat} {ap : Bool}
theorem lo_w {w i : Nat} (hw : w < 64) (hi : i < 6) (h1 : w.testBit i = true ∧ ∀ j, j < i → w.testBit j = false) : Lo (nI w).toInt64 i := by
  rw [nI_l (by omega)]
  exact ⟨by omega, by rw [tb_lN (by omega)]; exact h1.1, fun j hj => by rw [tb_lN (by omega)]; exact h1.2 j hj⟩
/-- the end of narrow: yes or no, the choices then -/
def NB (B : Nat → Nat) (ka lc : Int32) (lk : Nat → Int32) (ob sj : Nat → Int64) (rw : Nat → Int32) (LK T : List Nat) (ap : Bool) (l : Nat) (h : pH) (C : Nat → Nat → Int64) (c : Nat → Int64) (Post : (Nat → Int64) → Prop) (o : Option pR) : Prop :=
  ∃ (h2 : pH) (c2 : Nat → Int64) (b : Bool), o = some (some (.int (bI b)), h2) ∧ Ch h h2 (seS B) ∧ SE h2 B ka lc lk (upC C l c2) ob sj rw ∧ (b = false → ∀ ρ, ¬ Sol LK T ap c ρ) ∧ (b = true → NS LK T ap c c2 ∧ Post c2)
/-- one turn of narrow at node i, c i not empty: narrowLinked, narrowOthers, and then k -/
theorem se_turn {l i : Nat} {wide x4 x5 : Int32} {sg : Bool} {c : Nat → Int64} {k128 : Nat → Nat → Int32 → Int32 → Int32 → pH → Option pR} {Post : (Nat → Int64) → Prop} (hG : 1000 ≤ G) (hl : l < 7) (hi : i < 6) (hka : ka = bI ap) (hcb : CB c) (hLk : okLk LK) (hlk : rowL lk LK) (hlc : lc = nI LK.length) (hTB : TB ob sj T) (hlp : LPr LK c) (h0 : c i ≠ 0) (hsg : sg = true ↔ c i &&& (c i - 1) = 0) {h : pH} {C : Nat → Nat → Int64} (s : SE h B ka lc lk C ob sj rw) (hC : C l = c)
    (hk : ∀ (h2 : pH) (c2 : Nat → Int64) (m : Nat), m < 64 → Ch h h2 (seS B) → SE h2 B ka lc lk (upC C l c2) ob sj rw → NS LK T ap c c2 → (∀ u, sg = true → tb (c i) u = true → PT LK T ap i u c2) → NB B ka lc lk ob sj rw LK T ap l h2 C c2 Post (k128 (B 25) (B (28 + l)) wide (x4 ||| nI m) x5 h2)) :
    NB B ka lc lk ob sj rw LK T ap l h C c Post (f_Se_narrow_b88 G k128 (B 25) (B (28 + l)) wide x4 x5 (nI i) (c i) (bI sg) h) := by
  have gka : ∀ {h : pH} {C : Nat → Nat → Int64}, SE h B ka lc lk C ob sj rw → gI h (B 25) 1 1 = some (bI ap) := fun s => by rw [← hka]; exact s.gka
  have fin : ∀ (h2 : pH) (c2 : Nat → Int64) (m : Nat), m < 64 → Ch h h2 (seS B) → SE h2 B ka lc lk (upC C l c2) ob sj rw → NS LK T ap c c2 → (∀ u, sg = true → tb (c i) u = true → PT LK T ap i u c2) → NB B ka lc lk ob sj rw LK T ap l h C c Post (f_Se_narrow_b129 G k128 (B 25) (B (28 + l)) wide x4 x5 (nI m) h2) := fun h2 c2 m hm hc s2 hns hp => by
    obtain ⟨h3, c3, b, b1, b2, b3, b4, b5⟩ := hk h2 c2 m hm hc s2 hns hp
    exact ⟨h3, c3, b, by rw [f_Se_narrow_b129_eq, if_pos (nI_pos' (by omega)), b1], hc.tr b2, b3, fun q ρ hρ => b4 q ρ (hns.2 ρ hρ), fun q => ⟨hns.tr (b5 q).1, (b5 q).2⟩⟩
  obtain ⟨h2, c2, w, b1, b2, b3, b4⟩ := se_linked (G := G) (i := i) (ap := ap) hG hl hi hcb hLk hlk hlc hTB hlp s hC
  rw [f_Se_narrow_b88_eq, cI_of s.is b1]
  rcases b4 with ⟨w1, w2⟩ | ⟨m, m1, m2, m3, m4, m5⟩
  · subst w1
    rw [if_pos (by decide)]
    exact ⟨h2, c2, false, by rw [f_Se_narrow_b129_eq, if_neg (by decide)]; rfl, b2, b3, fun _ => w2, fun q => (by cases q)⟩
  · subst m2
    rw [if_neg (nI_pos (by omega))]
    -- the only term of c i
    have one : sg = true → ∀ u, tb (c i) u = true → c i = lN (2 ^ u) := fun hs u hu => by
      have h1 := one_0.mp (hsg.mp hs)
      refine tb_ext fun t _ => ?_
      rw [tb_lN (Nat.pow_lt_pow_right (by decide) (tb_lt hu)), Nat.testBit_two_pow]
      cases e : tb (c i) t
      · exact (decide_eq_false (fun q => by subst q; rw [hu] at e; cases e)).symm
      · exact (decide_eq_true (h1 u t hu e)).symm
    have uni : sg = true → ∀ u, tb (c i) u = true → ∀ t, tb (c i) t = true → t = u := fun hs u hu t ht => one_0.mp (hsg.mp hs) t u ht hu
    cases hsgb : sg
    · subst hsgb
      rw [if_pos (show bI false = 0 from rfl)]
      exact fin h2 c2 m m1 b2 b3 m3 (fun u hs => (by cases hs))
    · subst hsgb
      rw [if_neg (show ¬ bI true = 0 by decide), gka b3, Option.bind_some]
      cases hap : ap
      · subst hap
        rw [if_pos (show bI false = 0 from rfl)]
        refine fin h2 c2 m m1 b2 b3 m3 (fun u hs hu => ⟨?_, fun q => (by cases q), fun t ht => uni hs u hu t (by rw [← m4]; exact ht)⟩)
        rw [← one hs u hu]; exact m5
      · subst hap
        rw [if_neg (show ¬ bI true = 0 by decide)]
        obtain ⟨u, _, hu⟩ := tb_nz.mp h0
        obtain ⟨h3, c3, w3, d1, d2, d3, d4⟩ := se_others (G := G) (i := i) (u0 := u) (LK := LK) (T := T) (ap := true) (c := c2) hG hl hi rfl (by rw [m4]; exact h0) (by rw [m4]; exact uni rfl u hu) (m3.cb hcb) b3 upC_s
        rw [upC_u] at d3
        rw [m4] at d1
        rw [cI_of rfl d1]
        rcases d4 with ⟨w1, w2⟩ | ⟨m6, m7, m8, m9, m10, m11⟩
        · subst w1
          rw [or_m1]
          exact ⟨h3, c3, false, by rw [f_Se_narrow_b129_eq, if_neg (by decide)]; rfl, b2.tr d2, d3, fun _ ρ hρ => w2 ρ (m3.2 ρ hρ), fun q => (by cases q)⟩
        · subst m8
          rw [(or64 m m1 m6 m7).1]
          refine fin h3 c3 (m ||| m6) (or64 m m1 m6 m7).2 (b2.tr d2) d3 (m3.tr m9) (fun u2 hs hu2 => ?_)
          have hu3 : u2 = u := uni rfl u hu u2 hu2
          subst hu3
          refine ⟨?_, fun _ => m11, fun t ht => uni rfl u2 hu t (by rw [← m4, ← m10]; exact ht)⟩
          have m5 : PLk T i (c i) c2 LK := m5
          rw [one rfl u2 hu] at m5
          exact m5.mono (fun n hn => (hLk.2 n hn).1) (fun j hj => (m9.1 j hj).2)
/-- narrow, from any state of it: what is ruled out is ruled out -/
theorem se_narrowG {l : Nat} {wide : Int32} (hG : 1000 ≤ G) (hl : l < 7) (hka : ka = bI ap) (hLk : okLk LK) (hlk : rowL lk LK) (hlc : lc = nI LK.length) (hTB : TB ob sj T) {C : Nat → Nat → Int64} :
    ∀ (d F k w : Nat) (h : pH) (c : Nat → Int64), d < F → k + d = 282 → w < 64 → CB c → LPr LK c → SE h B ka lc lk (upC C l c) ob sj rw → NB B ka lc lk ob sj rw LK T ap l h C c (fun _ => True) (f_Se_narrow_b6 G F (B 25) (B (28 + l)) wide (nI w) (nI k) h) := by
  intro d
  induction d with
  | zero =>
    intro F k w h c hF hk hw hcb hlp s
    obtain ⟨F, rfl⟩ : ∃ F', F = F' + 1 := ⟨F - 1, by omega⟩
    have : k = 282 := by omega
    subst this
    exact ⟨h, c, true, by rw [f_Se_narrow_b6_eq, if_pos (by decide), f_Se_narrow_b149_eq]; rfl, Ch.rf, s, fun q => (by cases q), fun _ => ⟨NS.rf, trivial⟩⟩
  | succ d ih =>
    intro F k w h c hF hk hw hcb hlp s
    obtain ⟨F, rfl⟩ : ∃ F', F = F' + 1 := ⟨F - 1, by omega⟩
    rw [f_Se_narrow_b6_eq, if_neg (show ¬ (282 : Int32) ≤ nI k from nI_ge (b := 282) (by omega) (by omega))]
    by_cases h0 : w = 0
    · rw [if_pos (by rw [h0]; rfl)]
      exact ⟨h, c, true, by rw [f_Se_narrow_b149_eq]; rfl, Ch.rf, s, fun q => (by cases q), fun _ => ⟨NS.rf, trivial⟩⟩
    · rw [if_neg (nI_ne0 (by omega) (by omega))]
      obtain ⟨i, i1, i2, w2, w3, w4⟩ := wlow w hw h0
      rw [cI_of rfl (mg_lowest (lo_w hw i1 i2)), aK_of (s.2.2.2.2.1 l hl) (s.1.1 (28 + l) (by omega)), Option.bind_some, if_neg (show ¬ nI 6 ≤ nI i from nI_ge (by omega) (by omega)), s.c hl i1, Option.bind_some, upC_s, w4, f_Se_narrow_b51_eq]
      -- go on
      have nxt : ∀ (h2 : pH) (c2 : Nat → Int64) (w5 : Nat), w5 < 64 → SE h2 B ka lc lk (upC C l c2) ob sj rw → NS LK T ap c c2 → NB B ka lc lk ob sj rw LK T ap l h2 C c2 (fun _ => True) (f_Se_narrow_b143 G (f_Se_narrow_b6 G F) (B 25) (B (28 + l)) wide (nI w5) (nI k) h2) := fun h2 c2 w5 hw5 s2 hns => by
        rw [f_Se_narrow_b143_eq, nI_1]
        exact ih F (k + 1) w5 h2 c2 (by omega) (by omega) hw5 (hns.cb hcb) (hns.lp hLk hlp) s2
      have body : ∀ sg : Bool, (sg = true ↔ c i &&& (c i - 1) = 0) → NB B ka lc lk ob sj rw LK T ap l h C c (fun _ => True) (f_Se_narrow_b70 G (f_Se_narrow_b6 G F) (B 25) (B (28 + l)) wide (nI w2) (nI k) (nI i) (c i) (bI sg) h) := fun sg hsg => by
        rw [f_Se_narrow_b70_eq]
        by_cases hz : c i = 0
        · rw [if_pos (lg_0.mpr hz)]
          exact nxt h c w2 w3 s NS.rf
        · rw [if_neg (fun q => hz (lg_0.mp q))]
          have turn : NB B ka lc lk ob sj rw LK T ap l h C c (fun _ => True) (f_Se_narrow_b88 G (f_Se_narrow_b143 G (f_Se_narrow_b6 G F)) (B 25) (B (28 + l)) wide (nI w2) (nI k) (nI i) (c i) (bI sg) h) := by
            have := se_turn (G := G) (wide := wide) (x4 := nI w2) (x5 := nI k) (k128 := f_Se_narrow_b143 G (f_Se_narrow_b6 G F)) (Post := fun _ => True) (T := T) (ap := ap) hG hl i1 hka hcb hLk hlk hlc hTB hlp hz hsg s upC_s (fun h2 c2 m hm hc s2 hns _ => by
              rw [upC_u] at s2
              obtain ⟨h3, c3, b, b1, b2, b3, b4, b5⟩ := nxt h2 c2 (w2 ||| m) (or64 w2 w3 m hm).2 s2 hns
              refine ⟨h3, c3, b, by rw [(or64 w2 w3 m hm).1, b1], b2, by rw [upC_u]; exact b3, b4, b5⟩)
            obtain ⟨h3, c3, b, b1, b2, b3, b4, b5⟩ := this
            rw [upC_u] at b3
            exact ⟨h3, c3, b, b1, b2, b3, b4, b5⟩
          by_cases hwd : wide = 0
          · rw [if_pos hwd]
            by_cases hs0 : bI sg = 0
            · rw [if_pos hs0]
              exact nxt h c w2 w3 s NS.rf
            · rw [if_neg hs0]; exact turn
          · rw [if_neg hwd]; exact turn
      by_cases hs1 : c i &&& (c i - 1) = 0
      · rw [if_pos (lg_0.mpr hs1)]
        exact body true ⟨fun _ => hs1, fun _ => rfl⟩
      · rw [if_neg (fun q => hs1 (lg_0.mp q))]
        exact body false ⟨fun q => (by cases q), fun q => absurd q hs1⟩
/-- narrow after node L was settled at u -/
theorem se_narrowL {l L u : Nat} {c : Nat → Int64} (hG : 1000 ≤ G) (hl : l < 7) (hL : L < 6) (hka : ka = bI ap) (hLk : okLk LK) (hlk : rowL lk LK) (hlc : lc = nI LK.length) (hTB : TB ob sj T) {C : Nat → Nat → Int64} {h : pH} (hcb : CB c) (hlp : LPr LK c) (hu : u < 46) (hc : c L = lN (2 ^ u)) (s : SE h B ka lc lk (upC C l c) ob sj rw) :
    NB B ka lc lk ob sj rw LK T ap l h C c (fun c2 => PT LK T ap L u c2) (f_Se_narrow G (B 25) (B (28 + l)) ((1 : Int32) <<< (nI L &&& 31)) 0 h) := by
  obtain ⟨F, hF⟩ : ∃ F', G = F' + 1 := ⟨G - 1, by omega⟩
  have tbc : ∀ t, tb (c L) t = decide (u = t) := fun t => by
    rw [hc, tb_lN (Nat.pow_lt_pow_right (by decide) (by omega)), Nat.testBit_two_pow]
  have hz : c L ≠ 0 := tb_nz.mpr ⟨u, by omega, by rw [tbc, decide_eq_true rfl]⟩
  have hs1 : c L &&& (c L - 1) = 0 := one_0.mpr fun a b ha hb => by
    rw [tbc] at ha hb
    have := of_decide_eq_true ha
    have := of_decide_eq_true hb
    omega
  have hw : (2 ^ L).testBit L = true ∧ ∀ j, j < L → (2 ^ L).testBit j = false := ⟨by rw [Nat.testBit_two_pow, decide_eq_true rfl], fun j hj => by rw [Nat.testBit_two_pow, decide_eq_false (by omega)]⟩
  obtain ⟨w2, w3, w4⟩ : ∃ w2, w2 < 64 ∧ nI (2 ^ L) &&& (nI (2 ^ L) - 1) = nI w2 := by
    obtain ⟨_, _, _, w2, w3, w4⟩ := wlow (2 ^ L) (shl6 L hL).2 (by have := Nat.two_pow_pos L; omega)
    exact ⟨w2, w3, w4⟩
  have st : f_Se_narrow G (B 25) (B (28 + l)) ((1 : Int32) <<< (nI L &&& 31)) 0 h = f_Se_narrow_b88 G (f_Se_narrow_b143 G (f_Se_narrow_b6 G F)) (B 25) (B (28 + l)) 0 (nI w2) (nI 0) (nI L) (c L) (bI true) h := by
    have e6 : f_Se_narrow_b6 G G (B 25) (B (28 + l)) 0 (nI (2 ^ L)) 0 h = f_Se_narrow_b6 G (F + 1) (B 25) (B (28 + l)) 0 (nI (2 ^ L)) (nI 0) h := by rw [← hF]; rfl
    rw [f_Se_narrow_eq, (shl6 L hL).1, e6, f_Se_narrow_b6_eq, if_neg (by decide), if_neg (nI_ne0 (by have := Nat.two_pow_pos L; omega) (by have := (shl6 L hL).2; omega)), cI_of rfl (mg_lowest (lo_w (shl6 L hL).2 hL hw)), aK_of (s.2.2.2.2.1 l hl) (s.1.1 (28 + l) (by omega)), Option.bind_some, if_neg (show ¬ nI 6 ≤ nI L from nI_ge (by omega) (by omega)), s.c hl hL, Option.bind_some, upC_s, w4, f_Se_narrow_b51_eq, if_pos (lg_0.mpr hs1), f_Se_narrow_b70_eq, if_neg (fun q => hz (lg_0.mp q)), if_pos rfl, if_neg (by decide)]
    rfl
  rw [st]
  have := se_turn (G := G) (wide := 0) (x4 := nI w2) (x5 := nI 0) (sg := true) (k128 := f_Se_narrow_b143 G (f_Se_narrow_b6 G F)) (Post := fun c2 => PT LK T ap L u c2) (T := T) (ap := ap) hG hl hL hka hcb hLk hlk hlc hTB hlp hz ⟨fun _ => hs1, fun _ => rfl⟩ s upC_s (fun h2 c2 m hm hc2 s2 hns hpt => by
    rw [upC_u] at s2
    have pt := hpt u rfl (by rw [tbc, decide_eq_true rfl])
    obtain ⟨h3, c3, b, b1, b2, b3, b4, b5⟩ := se_narrowG (G := G) (wide := 0) (T := T) (ap := ap) hG hl hka hLk hlk hlc hTB (C := C) 281 F 1 (w2 ||| m) h2 c2 (by omega) (by omega) (or64 w2 w3 m hm).2 (hns.cb hcb) (hns.lp hLk hlp) s2
    refine ⟨h3, c3, b, by rw [f_Se_narrow_b143_eq, (or64 w2 w3 m hm).1]; exact b1, b2, by rw [upC_u]; exact b3, b4, fun q => ⟨(b5 q).1, pt.mono hLk hL (fun j hj => ((b5 q).1.1 j hj).2)⟩⟩)
  obtain ⟨h3, c3, b, b1, b2, b3, b4, b5⟩ := this
  rw [upC_u] at b3
  exact ⟨h3, c3, b, b1, b2, b3, b4, b5⟩
end SEW
