/-! PURE: sets of terms as longs -/
theorem tb_and (x y : Int64) (t : Nat) : tb (x &&& y) t = (tb x t && tb y t) := by
  unfold tb; rw [Int64.toBitVec_and, BitVec.getLsbD_and]
theorem tb_or (x y : Int64) (t : Nat) : tb (x ||| y) t = (tb x t || tb y t) := by
  unfold tb; rw [Int64.toBitVec_or, BitVec.getLsbD_or]
theorem tb_xor (x y : Int64) (t : Nat) : tb (x ^^^ y) t = (tb x t ^^ tb y t) := by
  unfold tb; rw [Int64.toBitVec_xor, BitVec.getLsbD_xor]
theorem tb_not (x : Int64) {t : Nat} (ht : t < 64) : tb (~~~x) t = !tb x t := by
  unfold tb; rw [Int64.toBitVec_not, BitVec.getLsbD_not, decide_eq_true ht, Bool.true_and]
theorem tb_ge (x : Int64) {t : Nat} (ht : 64 ≤ t) : tb x t = false := BitVec.getLsbD_of_ge _ _ ht
theorem tb_lt {x : Int64} {t : Nat} (h : tb x t = true) : t < 64 := by
  rcases Nat.lt_or_ge t 64 with q | q
  · exact q
  · rw [tb_ge x q] at h; cases h
theorem tb_ext {x y : Int64} (h : ∀ t, t < 64 → tb x t = tb y t) : x = y :=
  wb_inj (BitVec.eq_of_getLsbD_eq (fun i hi => h i hi))
theorem tb_0 (t : Nat) : tb 0 t = false := by
  show (0 : Int64).toBitVec.getLsbD t = false
  rw [Int64.toBitVec_zero, BitVec.getLsbD_zero]
theorem tb_one {k : Nat} (hk : k < 64) (t : Nat) : tb ((1 : Int64) <<< ((nI k).toInt64 &&& 63)) t = decide (t = k) := by
  rw [show (1 : Int64) = lN 1 from rfl, wb_shl 1 hk, Nat.one_mul, tb_lN (Nat.pow_lt_pow_right (by decide) hk), Nat.testBit_two_pow]
  exact decide_eq_decide.mpr ⟨Eq.symm, Eq.symm⟩
theorem tb_nz {x : Int64} : x ≠ 0 ↔ ∃ t, t < 64 ∧ tb x t = true := by
  constructor
  · intro hx
    refine Classical.byContradiction fun hn => hx (tb_ext fun t ht => ?_)
    rw [tb_0]
    cases e : tb x t
    · rfl
    · exact absurd ⟨t, ht, e⟩ hn
  · rintro ⟨t, _, h⟩ rfl
    rw [tb_0] at h; cases h
theorem lg_0 {x : Int64} : lg_cmp x 0 = 0 ↔ x = 0 := by
  unfold lg_cmp
  constructor
  · intro h
    split at h
    · exact absurd h (by decide)
    · split at h
      · assumption
      · exact absurd h (by decide)
  · rintro rfl
    decide
/-- the least bit -/
def Lo (x : Int64) (k : Nat) : Prop := k < 64 ∧ tb x k = true ∧ ∀ j, j < k → tb x j = false
theorem Lo.ex {x : Int64} (hx : x ≠ 0) : ∃ k, Lo x k := by
  obtain ⟨t, h1, h2⟩ := tb_nz.mp hx
  obtain ⟨k, hk, hl⟩ := pk_least (fun k => tb x k = true) ⟨t, h2⟩
  exact ⟨k, tb_lt hk, hk, fun j hj => by cases e : tb x j; rfl; exact absurd e (hl j hj)⟩
theorem Lo.un {x : Int64} {j k : Nat} (hj : Lo x j) (hk : Lo x k) : j = k := by
  rcases Nat.lt_trichotomy j k with q | q | q
  · have := hk.2.2 j q; rw [hj.2.1] at this; cases this
  · exact q
  · have := hj.2.2 k q; rw [hk.2.1] at this; cases this
theorem tb_neg (x : Int64) {t : Nat} (ht : t < 64) : tb (-x) t = (tb x t ^^ decide (∃ j, j < t ∧ tb x j = true)) := by
  unfold tb
  rw [Int64.toBitVec_neg, BitVec.getLsbD_neg, decide_eq_true ht, Bool.true_and]
theorem tb_low {x : Int64} {k : Nat} (hk : Lo x k) (t : Nat) : tb (x &&& -x) t = decide (t = k) := by
  rcases Nat.lt_or_ge t 64 with ht | ht
  · rw [tb_and, tb_neg x ht]
    rcases Nat.lt_trichotomy t k with q | q | q
    · rw [hk.2.2 t q, decide_eq_false (show ¬ t = k by omega), Bool.false_and]
    · subst q
      have : ¬ ∃ j, j < t ∧ tb x j = true := fun ⟨j, h1, h2⟩ => by rw [hk.2.2 j h1] at h2; cases h2
      rw [hk.2.1, decide_eq_false this, decide_eq_true rfl]; rfl
    · rw [decide_eq_true (⟨k, q, hk.2.1⟩ : ∃ j, j < t ∧ tb x j = true), decide_eq_false (show ¬ t = k by omega)]
      cases tb x t <;> rfl
  · rw [tb_ge _ ht, decide_eq_false (by have := hk.1; omega)]
theorem low_eq {x : Int64} {k : Nat} (hk : Lo x k) : x &&& -x = lN (2 ^ k) := by
  refine tb_ext fun t _ => ?_
  rw [tb_low hk, tb_lN (Nat.pow_lt_pow_right (by decide) hk.1), Nat.testBit_two_pow]
  exact decide_eq_decide.mpr ⟨Eq.symm, Eq.symm⟩
theorem tb_pred {x : Int64} {t : Nat} (ht : t < 64) : tb (x - 1) t = !tb (-x) t := by
  have e : x - 1 = ~~~(-x) := by
    apply wb_inj
    rw [Int64.toBitVec_not, Int64.toBitVec_neg, Int64.toBitVec_sub, BitVec.not_neg]
    rfl
  rw [e, tb_not _ ht]
/-- without the least bit -/
theorem tb_drop {x : Int64} {k : Nat} (hk : Lo x k) (t : Nat) : tb (x &&& (x - 1)) t = (tb x t && decide (t ≠ k)) := by
  rcases Nat.lt_or_ge t 64 with ht | ht
  · rw [tb_and, tb_pred ht, tb_neg x ht]
    rcases Nat.lt_trichotomy t k with q | q | q
    · rw [hk.2.2 t q, Bool.false_and, Bool.false_and]
    · subst q
      have : ¬ ∃ j, j < t ∧ tb x j = true := fun ⟨j, h1, h2⟩ => by rw [hk.2.2 j h1] at h2; cases h2
      rw [hk.2.1, decide_eq_false this, decide_eq_false (show ¬ t ≠ t from fun q => q rfl)]; rfl
    · rw [decide_eq_true (⟨k, q, hk.2.1⟩ : ∃ j, j < t ∧ tb x j = true), decide_eq_true (show t ≠ k by omega)]
      cases tb x t <;> rfl
  · rw [tb_ge _ ht, tb_ge _ ht]; rfl
theorem tb_dropx {x : Int64} {k : Nat} (hk : Lo x k) (t : Nat) : tb (x ^^^ (x &&& -x)) t = (tb x t && decide (t ≠ k)) := by
  rw [tb_xor, tb_low hk]
  by_cases e : t = k
  · subst e
    rw [hk.2.1, decide_eq_true rfl, decide_eq_false (show ¬ t ≠ t from fun q => q rfl)]; rfl
  · rw [decide_eq_false e, decide_eq_true (show t ≠ k from e)]
    cases tb x t <;> rfl
theorem drop_eq {x : Int64} (hx : x ≠ 0) : x ^^^ (x &&& -x) = x &&& (x - 1) := by
  obtain ⟨k, hk⟩ := Lo.ex hx
  exact tb_ext fun t _ => by rw [tb_dropx hk, tb_drop hk]
/-- counting -/
theorem cnt_one (p : Nat → Bool) (k : Nat) : ∀ n : Nat, (List.range n).countP p = (List.range n).countP (fun t => p t && decide (t ≠ k)) + (if k < n ∧ p k = true then 1 else 0) := by
  intro n
  induction n with
  | zero => simp
  | succ n ih =>
    rw [List.range_succ, List.countP_append, List.countP_append, ih, List.countP_singleton, List.countP_singleton]
    by_cases e : n = k
    · subst e
      rw [if_neg (show ¬ (n < n ∧ p n = true) by omega), if_neg (show ¬ ((p n && decide (n ≠ n)) = true) by simp)]
      by_cases hp : p n = true
      · rw [if_pos hp, if_pos ⟨by omega, hp⟩]
      · rw [if_neg hp, if_neg (fun q => hp q.2)]
    · have e2 : (p n && decide (n ≠ k)) = p n := by rw [decide_eq_true e, Bool.and_true]
      rw [e2]
      have e3 : (k < n + 1 ∧ p k = true) ↔ (k < n ∧ p k = true) := ⟨fun q => ⟨by omega, q.2⟩, fun q => ⟨by omega, q.2⟩⟩
      by_cases hk : k < n ∧ p k = true
      · rw [if_pos hk, if_pos (e3.mpr hk)]; omega
      · rw [if_neg hk, if_neg (fun q => hk (e3.mp q))]; omega
theorem pcn_drop {x : Int64} (hx : x ≠ 0) : pcn x = pcn (x &&& (x - 1)) + 1 := by
  obtain ⟨k, hk⟩ := Lo.ex hx
  unfold pcn
  rw [cnt_one (tb x) k 64, if_pos ⟨hk.1, hk.2.1⟩]
  congr 1
  apply List.countP_congr
  intro t _
  rw [tb_drop hk]
theorem pcn_0 : pcn 0 = 0 := by
  unfold pcn
  exact List.countP_eq_zero.mpr fun t _ => by rw [tb_0]; decide
theorem pcn_z {x : Int64} : pcn x = 0 ↔ x = 0 := by
  constructor
  · intro h
    refine Classical.byContradiction fun hx => ?_
    rw [pcn_drop hx] at h
    omega
  · rintro rfl; exact pcn_0
theorem pcn_le (x : Int64) : pcn x ≤ 64 := by
  unfold pcn
  have := List.countP_le_length (p := tb x) (l := List.range 64)
  rw [List.length_range] at this
  exact this
theorem cnt_lt (k : Nat) : ∀ n : Nat, (List.range n).countP (fun t => decide (t < k)) = min n k := by
  intro n
  induction n with
  | zero => simp
  | succ n ih =>
    rw [List.range_succ, List.countP_append, ih, List.countP_singleton]
    by_cases e : n < k
    · rw [if_pos (decide_eq_true e)]; omega
    · rw [if_neg (by simp [e])]; omega
theorem pcn_low {x : Int64} {k : Nat} (hk : Lo x k) : pcn ((x &&& -x) - 1) = k := by
  have h2 : 0 < 2 ^ k := Nat.two_pow_pos k
  have h3 : 2 ^ k < 2 ^ 64 := Nat.pow_lt_pow_right (by decide) hk.1
  rw [low_eq hk, show (1 : Int64) = lN 1 from rfl, lN_sub (by omega)]
  have h4 := cnt_lt k 64
  rw [show min 64 k = k by have := hk.1; omega] at h4
  refine Eq.trans ?_ h4
  unfold pcn
  apply List.countP_congr
  intro t _
  rw [tb_lN (by omega), Nat.testBit_two_pow_sub_one]
/-- lowestOf(set) -/
theorem mg_lowest {G k : Nat} {x : Int64} {h : pH} (hk : Lo x k) : f_Mg_lowestOf G x h = some (some (.int (nI k)), h) := by
  rw [f_Mg_lowestOf_eq, cI_of rfl lo_bitCount, pcn_low hk]
theorem lo_low {G k : Nat} {x : Int64} {h : pH} (hk : Lo x k) : f_Lo_bitCount G ((x &&& -x) - 1) h = some (some (.int (nI k)), h) := by
  rw [lo_bitCount, pcn_low hk]
/-- isIn(set, term) -/
theorem mg_isIn {G k : Nat} {x : Int64} {h : pH} (hk : k < 64) : f_Mg_isIn G x (nI k) h = some (some (.int (if tb x k = true then 1 else 0)), h) := by
  have e : x &&& ((1 : Int64) <<< ((nI k).toInt64 &&& 63)) = 0 ↔ ¬ tb x k = true := by
    constructor
    · intro h1 h2
      have := congrArg (fun y => tb y k) h1
      simp only [tb_and, tb_one hk, tb_0, h2, decide_true, Bool.and_true] at this
      cases this
    · intro h1
      refine tb_ext fun t _ => ?_
      rw [tb_and, tb_one hk, tb_0]
      by_cases q : t = k
      · subst q
        cases h2 : tb x t
        · rfl
        · exact absurd h2 h1
      · rw [decide_eq_false q, Bool.and_false]
  rw [f_Mg_isIn_eq]
  by_cases q : tb x k = true
  · rw [if_neg (fun h1 => (e.mp (lg_0.mp h1)) q), if_pos q, f_Mg_isIn_b15_eq]; rfl
  · rw [if_pos (lg_0.mpr (e.mpr q)), if_neg q, f_Mg_isIn_b15_eq]; rfl
/-- a set with one term at most -/
theorem one_0 {x : Int64} : x &&& (x - 1) = 0 ↔ ∀ s t, tb x s = true → tb x t = true → s = t := by
  constructor
  · intro h s t hs ht
    have hx : x ≠ 0 := tb_nz.mpr ⟨s, tb_lt hs, hs⟩
    obtain ⟨k, hk⟩ := Lo.ex hx
    have h1 := congrArg (fun y => tb y s) h
    have h2 := congrArg (fun y => tb y t) h
    simp only [tb_drop hk, tb_0, hs, ht, Bool.true_and, decide_eq_false_iff_not, ne_eq, Decidable.not_not] at h1 h2
    omega
  · intro h
    refine tb_ext fun t _ => ?_
    rw [tb_0]
    by_cases hx : x = 0
    · subst hx; rw [tb_and, tb_0]; rfl
    · obtain ⟨k, hk⟩ := Lo.ex hx
      rw [tb_drop hk]
      cases e : tb x t
      · rfl
      · rw [decide_eq_false (show ¬ t ≠ k from fun q => q (h t k e hk.2.1))]; rfl
