/-! PURE: the class's Search: its cells -/
def SE (h : pH) (B : Nat → Nat) (ka lc : Int32) (lk : Nat → Int32) (C : Nat → Nat → Int64) (ob sj : Nat → Int64) (rw : Nat → Int32) : Prop :=
  BK h B ∧
  h.2 (B 25) = .inr (1, [.ref (B 9), .int ka, .ref (B 26), .int lc, .ref (B 27), .ref (B 35), .ref (B 36), .ref (B 37)]) ∧
  h.2 (B 26) = .inl (0, 30, .inl lk) ∧
  h.2 (B 27) = .inl (3, 7, .inr (.inr (.inr (.inr (fun i => if i < 7 then some (B (28 + i)) else none))))) ∧
  (∀ i : Nat, i < 7 → h.2 (B (28 + i)) = .inl (1, 6, .inr (.inl (C i)))) ∧
  h.2 (B 35) = .inl (1, 1840, .inr (.inl ob)) ∧
  h.2 (B 36) = .inl (1, 1840, .inr (.inl sj)) ∧
  h.2 (B 37) = .inl (0, 6, .inl rw)
/-- the cells that a search may change -/
def seS (B : Nat → Nat) : Nat → Prop := fun x => ∃ i : Nat, 25 ≤ i ∧ i < 38 ∧ i ≠ 27 ∧ x = B i
def upC (C : Nat → Nat → Int64) (l : Nat) (c : Nat → Int64) : Nat → Nat → Int64 := fun i => if i = l then c else C i
theorem upC_s {C : Nat → Nat → Int64} {l : Nat} {c : Nat → Int64} : upC C l c l = c := if_pos rfl
theorem upC_n {C : Nat → Nat → Int64} {l i : Nat} {c : Nat → Int64} (h : i ≠ l) : upC C l c i = C i := if_neg h
theorem upC_u {C : Nat → Nat → Int64} {l : Nat} {c d : Nat → Int64} : upC (upC C l c) l d = upC C l d := funext fun i => by unfold upC; split <;> rfl
theorem upC_id {C : Nat → Nat → Int64} {l : Nat} : upC C l (C l) = C := funext fun i => by unfold upC; split <;> simp_all
section SEB
variable {h : pH} {B : Nat → Nat} {ka lc : Int32} {lk : Nat → Int32} {C : Nat → Nat → Int64} {ob sj : Nat → Int64} {rw : Nat → Int32}
theorem SE.is (s : SE h B ka lc lk C ob sj rw) : oC h (B 25) 1 = true := oC_of s.2.1 (s.1.1 25 (by omega))
theorem SE.f (s : SE h B ka lc lk C ob sj rw) {j v : Nat} (hj : [Value.ref (B 9), .int ka, .ref (B 26), .int lc, .ref (B 27), .ref (B 35), .ref (B 36), .ref (B 37)][j]? = some (.ref v)) : gR h (B 25) 1 j = some v := gR_of s.2.1 (s.1.1 25 (by omega)) hj
theorem SE.gka (s : SE h B ka lc lk C ob sj rw) : gI h (B 25) 1 1 = some ka := gI_of s.2.1 (s.1.1 25 (by omega)) rfl
theorem SE.glc (s : SE h B ka lc lk C ob sj rw) : gI h (B 25) 1 3 = some lc := gI_of s.2.1 (s.1.1 25 (by omega)) rfl
theorem SE.glk (s : SE h B ka lc lk C ob sj rw) {i : Nat} (hi : i < 30) : aI h (B 26) (nI i) = some (lk i) := aI_of s.2.2.1 (s.1.1 26 (by omega)) hi (by omega)
theorem SE.ch (s : SE h B ka lc lk C ob sj rw) {l : Nat} (hl : l < 7) : aR h 3 (B 27) (nI l) = some (B (28 + l)) := aR_of s.2.2.2.1 (s.1.1 27 (by omega)) hl (by omega) (if_pos hl)
theorem SE.c (s : SE h B ka lc lk C ob sj rw) {l i : Nat} (hl : l < 7) (hi : i < 6) : aJ h (B (28 + l)) (nI i) = some (C l i) := aJ_of (s.2.2.2.2.1 l hl) (s.1.1 (28 + l) (by omega)) hi (by omega)
theorem SE.gob (s : SE h B ka lc lk C ob sj rw) {i : Nat} (hi : i < 1840) : aJ h (B 35) (nI i) = some (ob i) := aJ_of s.2.2.2.2.2.1 (s.1.1 35 (by omega)) hi (by omega)
theorem SE.gsj (s : SE h B ka lc lk C ob sj rw) {i : Nat} (hi : i < 1840) : aJ h (B 36) (nI i) = some (sj i) := aJ_of s.2.2.2.2.2.2.1 (s.1.1 36 (by omega)) hi (by omega)
theorem SE.grw (s : SE h B ka lc lk C ob sj rw) {i : Nat} (hi : i < 6) : aI h (B 37) (nI i) = some (rw i) := aI_of s.2.2.2.2.2.2.2 (s.1.1 37 (by omega)) hi (by omega)
/-- a row of choices changed -/
theorem SE.uc (s : SE h B ka lc lk C ob sj rw) {l : Nat} (hl : l < 7) (c : Nat → Int64) : SE (hU h (B (28 + l)) (.inl (1, 6, .inr (.inl c)))) B ka lc lk (upC C l c) ob sj rw := by
  obtain ⟨b, a1, a2, a3, a4, a5, a6, a7⟩ := s
  have k : ∀ j : Nat, j < 44 → j ≠ 28 + l → ∀ e : pE, (hU h (B (28 + l)) e).2 (B j) = h.2 (B j) := fun j hj hn e => hU_n h e (b.ne (by omega) (by omega) hn)
  refine ⟨b, (k 25 (by omega) (by omega) _).trans a1, (k 26 (by omega) (by omega) _).trans a2, (k 27 (by omega) (by omega) _).trans a3, fun i hi => ?_, (k 35 (by omega) (by omega) _).trans a5, (k 36 (by omega) (by omega) _).trans a6, (k 37 (by omega) (by omega) _).trans a7⟩
  by_cases e : i = l
  · subst e; rw [upC_s]; exact hU_s _ _ _
  · rw [upC_n e, k (28 + i) (by omega) (by omega)]; exact a4 i hi
theorem SE.sc (s : SE h B ka lc lk C ob sj rw) {l i : Nat} (hl : l < 7) (hi : i < 6) (x : Int64) : sJ h (B (28 + l)) (nI i) x = some (hU h (B (28 + l)) (.inl (1, 6, .inr (.inl (vp_updL (C l) i x))))) := sJ_of (s.2.2.2.2.1 l hl) (s.1.1 (28 + l) (by omega)) hi (by omega)
theorem SE.chS {l : Nat} (hl : 28 ≤ l ∧ l < 35) {e : pE} : Ch h (hU h (B l) e) (seS B) := Ch.u ⟨l, by omega, by omega, by omega, rfl⟩
/-- the row changed -/
theorem SE.ur (s : SE h B ka lc lk C ob sj rw) (r : Nat → Int32) : SE (hU h (B 37) (.inl (0, 6, .inl r))) B ka lc lk C ob sj r := by
  obtain ⟨b, a1, a2, a3, a4, a5, a6, a7⟩ := s
  have k : ∀ j : Nat, j < 44 → j ≠ 37 → ∀ e : pE, (hU h (B 37) e).2 (B j) = h.2 (B j) := fun j hj hn e => hU_n h e (b.ne (by omega) (by omega) hn)
  exact ⟨b, (k 25 (by omega) (by omega) _).trans a1, (k 26 (by omega) (by omega) _).trans a2, (k 27 (by omega) (by omega) _).trans a3, fun i hi => (k (28 + i) (by omega) (by omega) _).trans (a4 i hi), (k 35 (by omega) (by omega) _).trans a5, (k 36 (by omega) (by omega) _).trans a6, hU_s _ _ _⟩
/-- a link noted -/
theorem SE.ul (s : SE h B ka lc lk C ob sj rw) (f : Nat → Int32) : SE (hU h (B 26) (.inl (0, 30, .inl f))) B ka lc f C ob sj rw := by
  obtain ⟨b, a1, a2, a3, a4, a5, a6, a7⟩ := s
  have k : ∀ j : Nat, j < 44 → j ≠ 26 → ∀ e : pE, (hU h (B 26) e).2 (B j) = h.2 (B j) := fun j hj hn e => hU_n h e (b.ne (by omega) (by omega) hn)
  exact ⟨b, (k 25 (by omega) (by omega) _).trans a1, hU_s _ _ _, (k 27 (by omega) (by omega) _).trans a3, fun i hi => (k (28 + i) (by omega) (by omega) _).trans (a4 i hi), (k 35 (by omega) (by omega) _).trans a5, (k 36 (by omega) (by omega) _).trans a6, (k 37 (by omega) (by omega) _).trans a7⟩
/-- the object's own fields changed -/
theorem SE.uf (s : SE h B ka lc lk C ob sj rw) (ka2 lc2 : Int32) : SE (hU h (B 25) (.inr (1, [.ref (B 9), .int ka2, .ref (B 26), .int lc2, .ref (B 27), .ref (B 35), .ref (B 36), .ref (B 37)]))) B ka2 lc2 lk C ob sj rw := by
  obtain ⟨b, a1, a2, a3, a4, a5, a6, a7⟩ := s
  have k : ∀ j : Nat, j < 44 → j ≠ 25 → ∀ e : pE, (hU h (B 25) e).2 (B j) = h.2 (B j) := fun j hj hn e => hU_n h e (b.ne (by omega) (by omega) hn)
  exact ⟨b, hU_s _ _ _, (k 26 (by omega) (by omega) _).trans a2, (k 27 (by omega) (by omega) _).trans a3, fun i hi => (k (28 + i) (by omega) (by omega) _).trans (a4 i hi), (k 35 (by omega) (by omega) _).trans a5, (k 36 (by omega) (by omega) _).trans a6, (k 37 (by omega) (by omega) _).trans a7⟩
/-- the tables changed -/
theorem SE.uo (s : SE h B ka lc lk C ob sj rw) (f : Nat → Int64) : SE (hU h (B 35) (.inl (1, 1840, .inr (.inl f)))) B ka lc lk C f sj rw := by
  obtain ⟨b, a1, a2, a3, a4, a5, a6, a7⟩ := s
  have k : ∀ j : Nat, j < 44 → j ≠ 35 → ∀ e : pE, (hU h (B 35) e).2 (B j) = h.2 (B j) := fun j hj hn e => hU_n h e (b.ne (by omega) (by omega) hn)
  exact ⟨b, (k 25 (by omega) (by omega) _).trans a1, (k 26 (by omega) (by omega) _).trans a2, (k 27 (by omega) (by omega) _).trans a3, fun i hi => (k (28 + i) (by omega) (by omega) _).trans (a4 i hi), hU_s _ _ _, (k 36 (by omega) (by omega) _).trans a6, (k 37 (by omega) (by omega) _).trans a7⟩
theorem SE.us (s : SE h B ka lc lk C ob sj rw) (f : Nat → Int64) : SE (hU h (B 36) (.inl (1, 1840, .inr (.inl f)))) B ka lc lk C ob f rw := by
  obtain ⟨b, a1, a2, a3, a4, a5, a6, a7⟩ := s
  have k : ∀ j : Nat, j < 44 → j ≠ 36 → ∀ e : pE, (hU h (B 36) e).2 (B j) = h.2 (B j) := fun j hj hn e => hU_n h e (b.ne (by omega) (by omega) hn)
  exact ⟨b, (k 25 (by omega) (by omega) _).trans a1, (k 26 (by omega) (by omega) _).trans a2, (k 27 (by omega) (by omega) _).trans a3, fun i hi => (k (28 + i) (by omega) (by omega) _).trans (a4 i hi), (k 35 (by omega) (by omega) _).trans a5, hU_s _ _ _, (k 37 (by omega) (by omega) _).trans a7⟩
theorem SE.keep {h2 : pH} {S : Nat → Prop} (s : SE h B ka lc lk C ob sj rw) (hc : Ch h h2 S) (hn : ∀ i : Nat, 25 ≤ i → i < 38 → ¬ S (B i)) : SE h2 B ka lc lk C ob sj rw := by
  obtain ⟨b, a1, a2, a3, a4, a5, a6, a7⟩ := s
  have k : ∀ j : Nat, 25 ≤ j → j < 38 → h2.2 (B j) = h.2 (B j) := fun j h1 h3 => hc.2 _ (hn j h1 h3)
  exact ⟨⟨fun i hi => by rw [hc.1]; exact b.1 i hi, b.2⟩, (k 25 (by omega) (by omega)).trans a1, (k 26 (by omega) (by omega)).trans a2, (k 27 (by omega) (by omega)).trans a3, fun i hi => (k (28 + i) (by omega) (by omega)).trans (a4 i hi), (k 35 (by omega) (by omega)).trans a5, (k 36 (by omega) (by omega)).trans a6, (k 37 (by omega) (by omega)).trans a7⟩
end SEB
/-- the facts between terms, as tables: by verb and subject the objects, by verb and object the subjects -/
def TB (ob sj : Nat → Int64) (T : List Nat) : Prop := (∀ v s t : Nat, v < 40 → s < 46 → (tb (ob (v * 46 + s)) t = true ↔ t < 46 ∧ 4096 * s + 64 * v + t ∈ T)) ∧ ∀ v o t : Nat, v < 40 → o < 46 → (tb (sj (v * 46 + o)) t = true ↔ t < 46 ∧ 4096 * t + 64 * v + o ∈ T)
section SER
variable {G : Nat} {h : pH}
theorem se_ci {v t : Nat} : nI v * (46 : Int32) + nI t = nI (v * 46 + t) := by
  rw [show (46 : Int32) = nI 46 from rfl, pk_mul, nI_add]
/-- marked(table, verb, term) -/
theorem se_marked {x v t : Nat} {f : Nat → Int64} {h : pH} (hf : h.2 x = .inl (1, 1840, .inr (.inl f))) (hx : x ∈ h.1) (hi : v * 46 + t < 1840) : f_Se_marked G x (nI v) (nI t) h = some (some (.long (f (v * 46 + t))), h) := by
  rw [f_Se_marked_eq, se_ci, if_neg (nI_pos (by omega)), aK_of hf hx, Option.bind_some, if_neg (show ¬ nI 1840 ≤ nI (v * 46 + t) from nI_ge (by omega) (by omega)), aJ_of hf hx hi (by omega), Option.bind_some, f_Se_marked_b24_eq]
/-- setMarked(table, verb, term, set) -/
theorem se_setMarked {x v t : Nat} {f : Nat → Int64} {y : Int64} {h : pH} (hf : h.2 x = .inl (1, 1840, .inr (.inl f))) (hx : x ∈ h.1) (hi : v * 46 + t < 1840) : f_Se_setMarked G x (nI v) (nI t) y h = some (none, hU h x (.inl (1, 1840, .inr (.inl (vp_updL f (v * 46 + t) y))))) := by
  rw [f_Se_setMarked_eq, se_ci, if_neg (nI_pos (by omega)), aK_of hf hx, Option.bind_some, if_neg (show ¬ nI 1840 ≤ nI (v * 46 + t) from nI_ge (by omega) (by omega)), sJ_of hf hx hi (by omega), Option.bind_some, f_Se_setMarked_b25_eq]
/-- reach(table, verb, from) -/
theorem se_reach {x v : Nat} {f : Nat → Int64} {y : Int64} (hG : 1000 ≤ G) (hf : h.2 x = .inl (1, 1840, .inr (.inl f))) (hx : x ∈ h.1) (hv : v < 40) (hy : ∀ t, tb y t = true → t < 46) :
    ∃ r : Int64, f_Se_reach G x (nI v) y h = some (some (.long r), h) ∧ ∀ t, tb r t = true ↔ ∃ u, tb y u = true ∧ tb (f (v * 46 + u)) t = true := by
  have lp : ∀ (d F : Nat) (z acc : Int64), d < F → pcn z = d → (∀ t, tb z t = true → t < 46) → ∃ r : Int64, f_Se_reach_b13 G F x (nI v) acc z (nI d) h = some (some (.long r), h) ∧ ∀ t, tb r t = true ↔ tb acc t = true ∨ ∃ u, tb z u = true ∧ tb (f (v * 46 + u)) t = true := by
    intro d
    induction d with
    | zero =>
      intro F z acc hF hd hz
      obtain ⟨F, rfl⟩ : ∃ F', F = F' + 1 := ⟨F - 1, by omega⟩
      have z0 := pcn_z.mp hd
      subst z0
      exact ⟨acc, by rw [f_Se_reach_b13_eq, if_pos (by decide)], fun t => ⟨Or.inl, fun q => q.elim id (fun ⟨u, h1, _⟩ => by rw [tb_0] at h1; cases h1)⟩⟩
    | succ d ih =>
      intro F z acc hF hd hz
      obtain ⟨F, rfl⟩ : ∃ F', F = F' + 1 := ⟨F - 1, by omega⟩
      have h64 := pcn_le z
      have z0 : z ≠ 0 := fun q => by rw [pcn_z.mpr q] at hd; omega
      obtain ⟨k, hk⟩ := Lo.ex z0
      have k46 := hz k hk.2.1
      have pd := pcn_drop z0
      obtain ⟨r, r1, r2⟩ := ih F (z &&& (z - 1)) (acc ||| f (v * 46 + k)) (by omega) (by omega) (fun t ht => by
        rw [tb_and, Bool.and_eq_true] at ht
        exact hz t ht.1)
      refine ⟨r, ?_, fun t => ?_⟩
      · rw [f_Se_reach_b13_eq, if_neg (nI_nle (by omega) (by omega)), cI_of rfl (lo_low hk), cJ_of rfl (se_marked hf hx (by omega)), pk_m1, r1]
      · rw [r2, tb_or, Bool.or_eq_true]
        constructor
        · rintro ((q | q) | ⟨u, h1, h2⟩)
          · exact Or.inl q
          · exact Or.inr ⟨k, hk.2.1, q⟩
          · rw [tb_and, Bool.and_eq_true] at h1
            exact Or.inr ⟨u, h1.1, h2⟩
        · rintro (q | ⟨u, h1, h2⟩)
          · exact Or.inl (Or.inl q)
          · by_cases e : u = k
            · subst e; exact Or.inl (Or.inr h2)
            · exact Or.inr ⟨u, by rw [tb_drop hk, h1, decide_eq_true e]; rfl, h2⟩
  obtain ⟨r, r1, r2⟩ := lp (pcn y) G y 0 (by have := pcn_le y; omega) rfl hy
  refine ⟨r, by rw [f_Se_reach_eq, cI_of rfl lo_bitCount]; exact r1, fun t => ?_⟩
  rw [r2, tb_0]
  exact ⟨fun q => q.elim (fun q => by cases q) id, Or.inr⟩
end SER
