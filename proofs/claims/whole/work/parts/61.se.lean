/-! PURE: what a search looks for, and how choices are narrowed -/
def okLk (LK : List Nat) : Prop := LK.length ≤ 30 ∧ ∀ n ∈ LK, okN n ∧ 40 ≤ n / 4096 ∧ 40 ≤ n % 64 ∧ n / 4096 ≠ n % 64
/-- ρ takes each node's term out of its choice, the links hold in T, and terms are apart if they must be -/
def Sol (LK T : List Nat) (ap : Bool) (c : Nat → Int64) (ρ : Nat → Nat) : Prop :=
  (∀ i : Nat, i < 6 → c i ≠ 0 → tb (c i) (ρ i) = true) ∧ (∀ n ∈ LK, 4096 * ρ (n / 4096 - 40) + 64 * (n / 64 % 64) + ρ (n % 64 - 40) ∈ T) ∧ (ap = true → ∀ i j : Nat, i < 6 → j < 6 → i ≠ j → c i ≠ 0 → c j ≠ 0 → ρ i ≠ ρ j)
def CB (c : Nat → Int64) : Prop := ∀ i : Nat, i < 6 → ∀ t : Nat, tb (c i) t = true → t < 46
def NS (LK T : List Nat) (ap : Bool) (c c2 : Nat → Int64) : Prop := (∀ i : Nat, i < 6 → (c2 i = 0 ↔ c i = 0) ∧ ∀ t : Nat, tb (c2 i) t = true → tb (c i) t = true) ∧ ∀ ρ : Nat → Nat, Sol LK T ap c ρ → Sol LK T ap c2 ρ
def LPr (LK : List Nat) (c : Nat → Int64) : Prop := ∀ n ∈ LK, c (n / 4096 - 40) ≠ 0 ∧ c (n % 64 - 40) ≠ 0
section NSP
variable {LK T : List Nat} {ap : Bool} {c c2 c3 : Nat → Int64} {ρ : Nat → Nat}
theorem NS.rf : NS LK T ap c c := ⟨fun _ _ => ⟨Iff.rfl, fun _ h => h⟩, fun _ h => h⟩
theorem NS.tr (a : NS LK T ap c c2) (b : NS LK T ap c2 c3) : NS LK T ap c c3 := ⟨fun i hi => ⟨((b.1 i hi).1).trans (a.1 i hi).1, fun t h => (a.1 i hi).2 t ((b.1 i hi).2 t h)⟩, fun ρ h => b.2 ρ (a.2 ρ h)⟩
theorem NS.cb (a : NS LK T ap c c2) (h : CB c) : CB c2 := fun i hi t ht => h i hi t ((a.1 i hi).2 t ht)
theorem NS.lp (a : NS LK T ap c c2) (hk : okLk LK) (h : LPr LK c) : LPr LK c2 := fun n hn => by
  have ⟨⟨o1, o2, o3⟩, h2, h3, _⟩ := hk.2 n hn
  exact ⟨fun q => (h n hn).1 (((a.1 _ (by omega)).1).mp q), fun q => (h n hn).2 (((a.1 _ (by omega)).1).mp q)⟩
/-- back: what solves the narrower solves the wider -/
theorem NS.back (a : NS LK T ap c c2) (h : Sol LK T ap c2 ρ) : Sol LK T ap c ρ := by
  obtain ⟨h1, h2, h3⟩ := h
  exact ⟨fun i hi h0 => (a.1 i hi).2 _ (h1 i hi (fun q => h0 (((a.1 i hi).1).mp q))), h2, fun hp i j hi hj hn h0 h9 => h3 hp i j hi hj hn (fun q => h0 (((a.1 i hi).1).mp q)) (fun q => h9 (((a.1 j hj).1).mp q))⟩
theorem uL_s {f : Nat → Int64} {k : Nat} {x : Int64} : vp_updL f k x k = x := pk_uLs
theorem uL_n {f : Nat → Int64} {k j : Nat} {x : Int64} (h : j ≠ k) : vp_updL f k x j = f j := pk_uLn h
theorem uL_id {f : Nat → Int64} {k : Nat} : vp_updL f k (f k) = f := funext fun i => by
  by_cases h : i = k
  · subst h; rw [uL_s]
  · rw [uL_n h]
theorem ns_step {j : Nat} {x : Int64} (h0 : c j ≠ 0) (hk : c j &&& x ≠ 0) (hx : ∀ ρ, Sol LK T ap c ρ → tb x (ρ j) = true) : NS LK T ap c (vp_updL c j (c j &&& x)) := by
  have e : ∀ i, (vp_updL c j (c j &&& x) i = 0 ↔ c i = 0) := fun i => by
    by_cases q : i = j
    · subst q; rw [uL_s]; exact ⟨fun q => absurd q hk, fun q => absurd q h0⟩
    · rw [uL_n q]
  refine ⟨fun i hi => ⟨e i, fun t ht => ?_⟩, fun ρ hρ => ⟨fun i hi h9 => ?_, hρ.2.1, fun hp a b ha hb hn h1 h2 => hρ.2.2 hp a b ha hb hn (fun q => h1 ((e a).mpr q)) (fun q => h2 ((e b).mpr q))⟩⟩
  · by_cases q : i = j
    · subst q; rw [uL_s, tb_and, Bool.and_eq_true] at ht; exact ht.1
    · rw [uL_n q] at ht; exact ht
  · have h8 := hρ.1 i hi (fun q => h9 ((e i).mpr q))
    by_cases q : i = j
    · subst q; rw [uL_s, tb_and, h8, hx ρ hρ]; rfl
    · rw [uL_n q]; exact h8
theorem ns_none {j : Nat} {x : Int64} (hj : j < 6) (h0 : c j ≠ 0) (hk : c j &&& x = 0) (hx : ∀ ρ, Sol LK T ap c ρ → tb x (ρ j) = true) : ∀ ρ, ¬ Sol LK T ap c ρ := fun ρ hρ => by
  have h1 : tb (c j &&& x) (ρ j) = true := by rw [tb_and, hρ.1 j hj h0, hx ρ hρ]; rfl
  rw [hk, tb_0] at h1
  cases h1
end NSP
theorem lg_eq {a b : Int64} : lg_cmp a b = 0 ↔ a = b := by
  unfold lg_cmp
  constructor
  · intro h
    split at h
    · exact absurd h (by decide)
    · split at h
      · assumption
      · exact absurd h (by decide)
  · rintro rfl
    rw [if_neg (by rw [gt_iff_lt, Int64.lt_iff_toInt_lt]; omega), if_pos rfl]
theorem shl6 : ∀ j, j < 6 → (1 : Int32) <<< (nI j &&& 31) = nI (2 ^ j) ∧ 2 ^ j < 64 := by decide
theorem or64 : ∀ a, a < 64 → ∀ b, b < 64 → nI a ||| nI b = nI (a ||| b) ∧ (a ||| b) < 64 := by decide +kernel
theorem or_m1 (x : Int32) : x ||| (-1 : Int32) = -1 := by
  apply Int32.toBitVec_inj.mp
  rw [Int32.toBitVec_or]
  show x.toBitVec ||| BitVec.allOnes 32 = BitVec.allOnes 32
  exact BitVec.or_allOnes
theorem m1_or (x : Int32) : (-1 : Int32) ||| x = -1 := by
  apply Int32.toBitVec_inj.mp
  rw [Int32.toBitVec_or]
  show BitVec.allOnes 32 ||| x.toBitVec = BitVec.allOnes 32
  exact BitVec.allOnes_or
section SEN
variable {G : Nat} {B : Nat → Nat} {ka lc : Int32} {lk : Nat → Int32} {ob sj : Nat → Int64} {rw : Nat → Int32} {LK T : List Nat} {ap : Bool}
/-- keepOnly(choice, j, set) -/
theorem se_keepOnly {h : pH} {C : Nat → Nat → Int64} {l j : Nat} {x : Int64} (s : SE h B ka lc lk C ob sj rw) (hl : l < 7) (hj : j < 6) :
    (C l j &&& x = 0 ∧ f_Se_keepOnly G (B (28 + l)) (nI j) x h = some (some (.int (-1)), h)) ∨ (C l j &&& x ≠ 0 ∧ ∃ (h2 : pH) (w : Nat), w < 64 ∧ f_Se_keepOnly G (B (28 + l)) (nI j) x h = some (some (.int (nI w)), h2) ∧ Ch h h2 (seS B) ∧ SE h2 B ka lc lk (upC C l (vp_updL (C l) j (C l j &&& x))) ob sj rw) := by
  rw [f_Se_keepOnly_eq, if_neg (nI_pos (by omega)), aK_of (s.2.2.2.2.1 l hl) (s.1.1 (28 + l) (by omega)), Option.bind_some, if_neg (show ¬ nI 6 ≤ nI j from nI_ge (by omega) (by omega)), s.c hl hj, Option.bind_some, f_Se_keepOnly_b19_eq, s.c hl hj, Option.bind_some]
  by_cases h0 : C l j &&& x = 0
  · exact Or.inl ⟨h0, by rw [if_pos (lg_0.mpr h0)]⟩
  · refine Or.inr ⟨h0, ?_⟩
    rw [if_neg (fun q => h0 (lg_0.mp q))]
    by_cases he : C l j &&& x = C l j
    · refine ⟨h, 0, by omega, by rw [if_pos (lg_eq.mpr he)]; rfl, Ch.rf, ?_⟩
      rw [he, uL_id, upC_id]; exact s
    · refine ⟨_, 2 ^ j, (shl6 j hj).2, by rw [if_neg (fun q => he (lg_eq.mp q)), s.sc hl hj, Option.bind_some, (shl6 j hj).1], SE.chS (by omega), s.uc hl _⟩
/-- the end of a narrowing: a code, the choices then -/
def NR (G : Nat) (B : Nat → Nat) (ka lc : Int32) (lk : Nat → Int32) (ob sj : Nat → Int64) (rw : Nat → Int32) (LK T : List Nat) (ap : Bool) (l : Nat) (h : pH) (C : Nat → Nat → Int64) (c : Nat → Int64) (Post : (Nat → Int64) → Prop) (o : Option pR) : Prop :=
  ∃ (h2 : pH) (c2 : Nat → Int64) (w : Int32), o = some (some (.int w), h2) ∧ Ch h h2 (seS B) ∧ SE h2 B ka lc lk (upC C l c2) ob sj rw ∧ ((w = -1 ∧ ∀ ρ, ¬ Sol LK T ap c ρ) ∨ (∃ m : Nat, m < 64 ∧ w = nI m ∧ NS LK T ap c c2 ∧ Post c2))
/-- narrowOthers(choice, i, own) -/
theorem se_others {l i u0 : Nat} {c : Nat → Int64} (hG : 1000 ≤ G) (hl : l < 7) (hi : i < 6) (hap : ap = true) (h0 : c i ≠ 0) (hu : ∀ t, tb (c i) t = true → t = u0) (hcb : CB c) {h : pH} {C : Nat → Nat → Int64} (s : SE h B ka lc lk C ob sj rw) (hC : C l = c) :
    NR G B ka lc lk ob sj rw LK T ap l h C c (fun c2 => c2 i = c i ∧ ∀ j : Nat, j < 6 → j ≠ i → ∀ t, tb (c2 j) t = true → t ≠ u0) (f_Se_narrowOthers G (B (28 + l)) (nI i) (c i) h) := by
  have hu0 : tb (c i) u0 = true := by
    obtain ⟨t, _, t2⟩ := tb_nz.mp h0
    rw [← hu t t2]; exact t2
  -- once it has failed
  have bad : (∀ ρ, ¬ Sol LK T ap c ρ) → ∀ (d F k : Nat) (h : pH) (C1 : Nat → Nat → Int64), d < F → k + d = 6 → SE h B ka lc lk C1 ob sj rw → (∃ c1, C1 = upC C l c1) → NR G B ka lc lk ob sj rw LK T ap l h C c (fun c2 => c2 i = c i ∧ ∀ j : Nat, j < 6 → j ≠ i → ∀ t, tb (c2 j) t = true → t ≠ u0) (f_Se_narrowOthers_b6 G F (B (28 + l)) (nI i) (c i) (-1) (nI k) h) := by
    intro hno d
    induction d with
    | zero =>
      intro F k h C1 hF hk s hC1
      obtain ⟨F, rfl⟩ : ∃ F', F = F' + 1 := ⟨F - 1, by omega⟩
      obtain ⟨c1, rfl⟩ := hC1
      have : k = 6 := by omega
      subst this
      exact ⟨h, c1, -1, by rw [f_Se_narrowOthers_b6_eq, aK_of (s.2.2.2.2.1 l hl) (s.1.1 (28 + l) (by omega)), Option.bind_some, if_pos (by decide)], Ch.rf, s, Or.inl ⟨rfl, hno⟩⟩
    | succ d ih =>
      intro F k h C1 hF hk s hC1
      obtain ⟨F, rfl⟩ : ∃ F', F = F' + 1 := ⟨F - 1, by omega⟩
      have st : ∀ (h2 : pH) (C2 : Nat → Nat → Int64), Ch h h2 (seS B) → SE h2 B ka lc lk C2 ob sj rw → (∃ c1, C2 = upC C l c1) → NR G B ka lc lk ob sj rw LK T ap l h C c (fun c2 => c2 i = c i ∧ ∀ j : Nat, j < 6 → j ≠ i → ∀ t, tb (c2 j) t = true → t ≠ u0) (f_Se_narrowOthers_b44 G (f_Se_narrowOthers_b6 G F) (B (28 + l)) (nI i) (c i) (-1) (nI k) h2) := fun h2 C2 hc s2 hC2 => by
        obtain ⟨h3, c3, w, b1, b2, b3, b4⟩ := ih F (k + 1) h2 C2 (by omega) (by omega) s2 hC2
        exact ⟨h3, c3, w, by rw [f_Se_narrowOthers_b44_eq, nI_1, b1], hc.tr b2, b3, b4⟩
      rw [f_Se_narrowOthers_b6_eq, aK_of (s.2.2.2.2.1 l hl) (s.1.1 (28 + l) (by omega)), Option.bind_some, if_neg (show ¬ nI 6 ≤ nI k from nI_ge (by omega) (by omega))]
      by_cases hki : k = i
      · rw [if_pos (by rw [hki])]
        exact st h C1 Ch.rf s hC1
      · rw [if_neg (fun q => hki ((nI_eq (by omega) (by omega)).mp q)), s.c hl (by omega), Option.bind_some]
        by_cases hz : C1 l k = 0
        · rw [if_pos (lg_0.mpr hz)]
          exact st h C1 Ch.rf s hC1
        · rw [if_neg (fun q => hz (lg_0.mp q))]
          rcases se_keepOnly (G := G) (j := k) (x := c i ^^^ (-1 : Int64)) s hl (by omega) with ⟨k1, k2⟩ | ⟨k1, h2, w, k2, k3, k4, k5⟩
          · rw [cI_of rfl k2, m1_or]
            exact st h C1 Ch.rf s hC1
          · rw [cI_of rfl k3, m1_or]
            refine st h2 _ k4 k5 ?_
            obtain ⟨c1, rfl⟩ := hC1
            exact ⟨_, upC_u⟩
  have lp : ∀ (d F k a : Nat) (h : pH) (c1 : Nat → Int64), d < F → k + d = 6 → a < 64 → SE h B ka lc lk (upC C l c1) ob sj rw → NS LK T ap c c1 → c1 i = c i → (∀ j : Nat, j < k → j ≠ i → ∀ t, tb (c1 j) t = true → t ≠ u0) →
      NR G B ka lc lk ob sj rw LK T ap l h C c (fun c2 => c2 i = c i ∧ ∀ j : Nat, j < 6 → j ≠ i → ∀ t, tb (c2 j) t = true → t ≠ u0) (f_Se_narrowOthers_b6 G F (B (28 + l)) (nI i) (c i) (nI a) (nI k) h) := by
    intro d
    induction d with
    | zero =>
      intro F k a h c1 hF hk ha s hns hci hp
      obtain ⟨F, rfl⟩ : ∃ F', F = F' + 1 := ⟨F - 1, by omega⟩
      have : k = 6 := by omega
      subst this
      exact ⟨h, c1, nI a, by rw [f_Se_narrowOthers_b6_eq, aK_of (s.2.2.2.2.1 l hl) (s.1.1 (28 + l) (by omega)), Option.bind_some, if_pos (by decide)], Ch.rf, s, Or.inr ⟨a, ha, rfl, hns, hci, hp⟩⟩
    | succ d ih =>
      intro F k a h c1 hF hk ha s hns hci hp
      obtain ⟨F, rfl⟩ : ∃ F', F = F' + 1 := ⟨F - 1, by omega⟩
      have skip : (k ≠ i → ∀ t, tb (c1 k) t = true → t ≠ u0) → NR G B ka lc lk ob sj rw LK T ap l h C c (fun c2 => c2 i = c i ∧ ∀ j : Nat, j < 6 → j ≠ i → ∀ t, tb (c2 j) t = true → t ≠ u0) (f_Se_narrowOthers_b44 G (f_Se_narrowOthers_b6 G F) (B (28 + l)) (nI i) (c i) (nI a) (nI k) h) := fun hq => by
        obtain ⟨h3, c3, w, b1, b2, b3, b4⟩ := ih F (k + 1) a h c1 (by omega) (by omega) ha s hns hci (fun j hj hn t ht => by
          rcases Nat.lt_or_ge j k with q | q
          · exact hp j q hn t ht
          · have : j = k := by omega
            subst this; exact hq hn t ht)
        exact ⟨h3, c3, w, by rw [f_Se_narrowOthers_b44_eq, nI_1, b1], b2, b3, b4⟩
      rw [f_Se_narrowOthers_b6_eq, aK_of (s.2.2.2.2.1 l hl) (s.1.1 (28 + l) (by omega)), Option.bind_some, if_neg (show ¬ nI 6 ≤ nI k from nI_ge (by omega) (by omega))]
      by_cases hki : k = i
      · rw [if_pos (by rw [hki])]
        exact skip (fun q => absurd hki q)
      · rw [if_neg (fun q => hki ((nI_eq (by omega) (by omega)).mp q)), s.c hl (by omega), Option.bind_some, upC_s]
        by_cases hz : c1 k = 0
        · rw [if_pos (lg_0.mpr hz)]
          exact skip (fun _ t ht => by rw [hz, tb_0] at ht; cases ht)
        · rw [if_neg (fun q => hz (lg_0.mp q))]
          have hx : ∀ ρ, Sol LK T ap c1 ρ → tb (c i ^^^ (-1 : Int64)) (ρ k) = true := fun ρ hρ => by
            have i0 : c1 i ≠ 0 := by rw [hci]; exact h0
            have e1 := hρ.1 i hi i0
            have e2 := hρ.1 k (by omega) hz
            have e3 := hρ.2.2 hap k i (by omega) hi hki hz i0
            rw [hci] at e1
            have e4 := hu _ e1
            rw [tb_m1 _ (tb_lt e2)]
            cases e : tb (c i) (ρ k)
            · rfl
            · exact absurd ((hu _ e).trans e4.symm) e3
          rcases se_keepOnly (G := G) (j := k) (x := c i ^^^ (-1 : Int64)) s hl (by omega) with ⟨k1, k2⟩ | ⟨k1, h2, w, k2, k3, k4, k5⟩
          · rw [upC_s] at k1
            rw [cI_of rfl k2, or_m1]
            have hno := ns_none (c := c1) (by omega) hz k1 hx
            obtain ⟨h3, c3, w, b1, b2, b3, b4⟩ := bad (fun ρ hρ => hno ρ (hns.2 ρ hρ)) d F (k + 1) h _ (by omega) (by omega) s ⟨c1, rfl⟩
            exact ⟨h3, c3, w, by rw [f_Se_narrowOthers_b44_eq, nI_1, b1], b2, b3, b4⟩
          · rw [upC_s] at k1 k5
            rw [upC_u] at k5
            rw [cI_of rfl k3, (or64 a ha w k2).1]
            obtain ⟨h3, c3, w3, b1, b2, b3, b4⟩ := ih F (k + 1) (a ||| w) h2 _ (by omega) (by omega) (or64 a ha w k2).2 k5 (hns.tr (ns_step hz k1 hx)) (by rw [uL_n (fun q => hki q.symm)]; exact hci) (fun j hj hn t ht => by
              by_cases q : j = k
              · subst q
                rw [uL_s, tb_and, Bool.and_eq_true] at ht
                intro e
                subst e
                rw [tb_m1 _ (tb_lt ht.1), hu0] at ht
                exact absurd ht.2 (by decide)
              · rw [uL_n q] at ht; exact hp j (by omega) hn t ht)
            exact ⟨h3, c3, w3, by rw [f_Se_narrowOthers_b44_eq, nI_1, b1], k4.tr b2, b3, b4⟩
  rw [f_Se_narrowOthers_eq]
  refine lp 6 G 0 0 h c (by omega) (by omega) (by omega) (by rw [← hC, upC_id]; exact s) NS.rf rfl (fun j hj => absurd hj (by omega))
end SEN
