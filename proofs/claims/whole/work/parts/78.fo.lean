/-! PURE: form, of the class -/
/-- the nodes as bits -/
def nbW (P : List Nat) : Nat := (nds P).toBitVec.toNat / 2 ^ 40
theorem nbW_t {P : List Nat} (hP : okL P) (t : Nat) : (nbW P).testBit t = stb 2 P (40 + t) := by
  unfold nbW
  rw [Nat.testBit_div_two_pow]
  show tb (nds P) (t + 40) = _
  rw [tb_nds hP, decide_eq_true (by omega), Bool.true_and, Nat.add_comm]
theorem nbW_lt {P : List Nat} (hP : okL P) : nbW P < 64 := by
  have : nbW P < 2 ^ 6 := Nat.lt_pow_two_of_testBit _ (fun i hi => by
    rw [nbW_t hP]
    cases e : stb 2 P (40 + i)
    · rfl
    · have := stb_lt hP e; omega)
  exact this
theorem nbW_c {P : List Nat} (hP : okL P) : cntW (nbW P) = (ndL P).length := by
  unfold ndL cntW
  rw [show 46 = 40 + 6 from rfl, List.range_add, List.filter_append, List.length_append]
  have e0 : ((List.range 40).filter (fun t => decide (40 ≤ t) && stb 2 P t)) = [] := List.filter_eq_nil_iff.mpr fun t ht => by
    have := List.mem_range.mp ht
    rw [decide_eq_false (by omega), Bool.false_and]; decide
  rw [e0, List.length_nil, Nat.zero_add, ← List.countP_eq_length_filter, List.countP_map]
  apply List.countP_congr
  intro t _
  show (nbW P).testBit t = true ↔ (decide (40 ≤ 40 + t) && stb 2 P (40 + t)) = true
  rw [nbW_t hP, decide_eq_true (by omega), Bool.true_and]
theorem sr40 {P : List Nat} (hP : okL P) : (nds P >>> (((40 : Int32)).toInt64 &&& 63)).toInt32 = nI (nbW P) := by
  have e : nds P >>> (((40 : Int32)).toInt64 &&& 63) = lN (nbW P) := by
    refine tb_ext fun t ht => ?_
    rw [tb_lN (by have := nbW_lt hP; omega), nbW_t hP]
    have e1 : ((40 : Int32)).toInt64 &&& 63 = lN 40 := wb_c 40 (by decide)
    rw [e1]
    show (nds P >>> lN 40).toBitVec.getLsbD t = _
    rw [Int64.toBitVec_shiftRight, wb_tb, wb_sm 40 (by decide), BitVec.sshiftRight_eq']
    rw [BitVec.getLsbD_sshiftRight, BitVec.toNat_ofNat, Nat.mod_eq_of_lt (show 40 < 2 ^ 64 by omega)]
    have mf : (nds P).toBitVec.msb = false := by
      rw [BitVec.msb_eq_getLsbD_last]
      show tb (nds P) 63 = false
      rw [tb_nds hP]
      cases e : stb 2 P 63
      · rfl
      · have := stb_lt hP e; omega
    rw [decide_eq_false (show ¬ 64 ≤ t by omega), Bool.not_false, Bool.true_and, mf]
    by_cases q : 40 + t < 64
    · rw [if_pos q]
      show tb (nds P) (40 + t) = _
      rw [tb_nds hP, decide_eq_true (by omega), Bool.true_and]
    · rw [if_neg q]
      cases e : stb 2 P (40 + t)
      · rfl
      · have := stb_lt hP e; omega
  rw [e, lN_i]
section FON
variable {G : Nat} {B : Nat → Nat} {hb : Int32} {bst : Nat → Int32} {P : List Nat}
theorem fo_bits {h : pH} {lab row tw : Nat → Int32} (hG : 1000 ≤ G) (hP : okL P) (s : FO h B hb lab row bst tw) (hg : Gr h (B 10) (B 21) P) : f_Fo_nodeBits G (B 38) h = some (some (.int (nI (nbW P))), h) := by
  rw [f_Fo_nodeBits_eq, s.f (v := B 10) rfl, Option.bind_some, cJ_of hg.is (gr_nodes (by omega) hg hP.sm), sr40 hP]
/-- canSwap(i, j) -/
theorem fo_canSwap {h : pH} {lab row tw : Nat → Int32} {i j : Nat} (hG : 1000 ≤ G) (hPA : Asc P) (hP : okL P) (hi : i < 6) (hj : j < 6) (hij : i ≠ j) (s : FO h B hb lab row bst tw) (hg : Gr h (B 10) (B 21) P) :
    ∃ (h2 : pH) (lab2 row2 : Nat → Int32) (b : Bool), f_Fo_canSwap G (B 38) (nI i) (nI j) h = some (some (.int (bI b)), h2) ∧ Ch h h2 (foS B) ∧ FO h2 B hb lab2 row2 bst tw ∧ (b = true → imG P (fun k => 40 + swp i j k) = P) := by
  have ij := swp_ij (P := P) hi hj
  have lp : ∀ (d F k : Nat) (f : Nat → Int32), d < F → k + d = 6 → (∀ l, l < k → f l = nI (40 + l)) → ∃ (h2 : pH) (lab2 row2 : Nat → Int32) (b : Bool), f_Fo_canSwap_b2 G F (B 38) (nI i) (nI j) (nI k) (hU h (B 39) (.inl (0, 6, .inl f))) = some (some (.int (bI b)), h2) ∧ Ch h h2 (foS B) ∧ FO h2 B hb lab2 row2 bst tw ∧ (b = true → imG P (fun k => 40 + swp i j k) = P) := by
    intro d
    induction d with
    | zero =>
      intro F k f hF hk hf
      obtain ⟨F, rfl⟩ : ∃ F', F = F' + 1 := ⟨F - 1, by omega⟩
      have : k = 6 := by omega
      subst this
      have s1 := s.ul f
      have s2 := s.ul (upd f i (nI (40 + j)))
      have s3 := s.ul (upd (upd f i (nI (40 + j))) j (nI (40 + i)))
      have c3 := chF (B := B) (h := h) (i := 39) (e := .inl (0, 6, .inl (upd (upd f i (nI (40 + j))) j (nI (40 + i))))) (by omega)
      have g3 := hg.keep c3 (nF s.1 (by omega)) (nF s.1 (by omega))
      have ron : rowOn (upd (upd f i (nI (40 + j))) j (nI (40 + i))) (fun k => 40 + swp i j k) P := fun t h40 ht => by
        have h46 := stb_lt hP ht
        show _ = nI (40 + swp i j (t - 40))
        simp only [upd]
        unfold swp
        by_cases q1 : t - 40 = j
        · rw [if_pos q1, if_neg (fun x => hij (x.symm.trans q1)), if_pos q1]
        · rw [if_neg q1]
          by_cases q2 : t - 40 = i
          · rw [if_pos q2, if_pos q2]
          · rw [if_neg q2, if_neg q2, if_neg q1]; exact hf _ (by omega)
      obtain ⟨row2, b1, b2⟩ := fo_writeRow (G := G) hG hP s3 g3 (ij.tot hP) ron
      have s4 := s3.ur row2
      have c4 := c3.tr (chF (B := B) (i := 40) (e := .inl (0, 30, .inl row2)) (by omega))
      have g4 := hg.keep c4 (nF s.1 (by omega)) (nF s.1 (by omega))
      rw [ij.srF hPA hP] at b2
      have sm : ∀ m ∈ imG P (fun k => 40 + swp i j k), m < 2 ^ 20 := fun m hm => by
        rcases (addP_mem _ _).mp hm with q | ⟨n, n1, _, n3⟩
        · exact absurd q List.not_mem_nil
        · rw [← n3]; exact (ren_ok hP (ij.tot hP) n1).lt
      have sr := gr_sameRow (G := G) hG g4 s4.2.2.2.1 (s4.1.1 40 (by omega)) b2 (ij.len hPA hP) hP.sm sm
      refine ⟨_, _, row2, _, ?_, c4, s4, fun q => of_decide_eq_true q⟩
      have e40 : ∀ x : Nat, (40 : Int32) + nI x = nI (40 + x) := fun x => by rw [show (40 : Int32) = nI 40 from rfl, nI_add]
      rw [f_Fo_canSwap_b2_eq, if_pos (by decide), s1.f (v := B 39) rfl, Option.bind_some, e40, sI_of s1.2.2.1 (s1.1.1 39 (by omega)) (by omega) (by omega), Option.bind_some, hU_u, s2.f (v := B 39) rfl, Option.bind_some, e40, sI_of s2.2.2.1 (s2.1.1 39 (by omega)) (by omega) (by omega), Option.bind_some, hU_u, cV_of s3.is b1, s4.f (v := B 10) rfl, Option.bind_some, s4.f (v := B 40) rfl, Option.bind_some, cI_of g4.is sr, if_pos (isZ_bI _)]
    | succ d ih =>
      intro F k f hF hk hf
      obtain ⟨F, rfl⟩ : ∃ F', F = F' + 1 := ⟨F - 1, by omega⟩
      have s1 := s.ul f
      have e40 : (40 : Int32) + nI k = nI (40 + k) := by rw [show (40 : Int32) = nI 40 from rfl, nI_add]
      obtain ⟨h2, lab2, row2, b, a1, a2⟩ := ih F (k + 1) (upd f k (nI (40 + k))) (by omega) (by omega) (fun l hl => by
        simp only [upd]
        by_cases q : l = k
        · rw [if_pos q, q]
        · rw [if_neg q]; exact hf l (by omega))
      refine ⟨h2, lab2, row2, b, ?_, a2⟩
      rw [f_Fo_canSwap_b2_eq, if_neg (show ¬ (6 : Int32) ≤ nI k from nI_ge (b := 6) (by omega) (by omega)), s1.f (v := B 39) rfl, Option.bind_some, e40, sI_of s1.2.2.1 (s1.1.1 39 (by omega)) (by omega) (by omega), Option.bind_some, hU_u, nI_1, a1]
  obtain ⟨h2, lab2, row2, b, a1, a2⟩ := lp 6 G 0 lab (by omega) (by omega) (fun l hl => absurd hl (by omega))
  rw [hU_id s.2.2.1] at a1
  exact ⟨h2, lab2, row2, b, by rw [f_Fo_canSwap_eq]; exact a1, a2⟩
/-- findTwins() -/
def TwI (P : List Nat) (i j v : Nat) : Prop := v < 64 ∧ ∀ l, l < 6 → v.testBit l = true → l < j ∧ imG P (fun k => 40 + swp i l k) = P
theorem fo_twins {h : pH} {lab row tw : Nat → Int32} (hG : 1000 ≤ G) (hPA : Asc P) (hP : okL P) (s : FO h B hb lab row bst tw) (hg : Gr h (B 10) (B 21) P) :
    ∃ (h2 : pH) (lab2 row2 tw2 : Nat → Int32), f_Fo_findTwins G (B 38) h = some (none, h2) ∧ Ch h h2 (foS B) ∧ FO h2 B hb lab2 row2 bst tw2 ∧ TwOK P tw2 := by
  have hw := nbW_lt hP
  -- the loop over those before i
  have inner : ∀ (i : Nat), i < 6 → ∀ (d F j v : Nat) (h : pH) (lab row tw : Nat → Int32) (k7 : Nat → Int32 → Int32 → pH → Option pR), d < F → j + d = i → FO h B hb lab row bst tw → Gr h (B 10) (B 21) P → tw i = nI v → TwI P i j v →
      ∃ (h2 : pH) (lab2 row2 tw2 : Nat → Int32) (v2 : Nat), f_Fo_findTwins_b22 G k7 F (B 38) (nI (nbW P)) (nI i) (nI j) h = k7 (B 38) (nI (nbW P)) (nI (i + 1)) h2 ∧ Ch h h2 (foS B) ∧ FO h2 B hb lab2 row2 bst tw2 ∧ tw2 i = nI v2 ∧ TwI P i i v2 ∧ ∀ l, l ≠ i → tw2 l = tw l := by
    intro i hi d
    induction d with
    | zero =>
      intro F j v h lab row tw k7 hF hj s hg htw hI
      obtain ⟨F, rfl⟩ : ∃ F', F = F' + 1 := ⟨F - 1, by omega⟩
      have : j = i := by omega
      subst this
      exact ⟨h, lab, row, tw, v, by rw [f_Fo_findTwins_b22_eq, if_pos (nI_le (by omega) (by omega)), nI_1], Ch.rf, s, htw, hI, fun _ _ => rfl⟩
    | succ d ih =>
      intro F j v h lab row tw k7 hF hj s hg htw hI
      obtain ⟨F, rfl⟩ : ∃ F', F = F' + 1 := ⟨F - 1, by omega⟩
      have nxt : ∀ (h2 : pH) (lab2 row2 tw2 : Nat → Int32) (v2 : Nat), Ch h h2 (foS B) → FO h2 B hb lab2 row2 bst tw2 → tw2 i = nI v2 → TwI P i (j + 1) v2 → (∀ l, l ≠ i → tw2 l = tw l) → ∃ (h3 : pH) (lab3 row3 tw3 : Nat → Int32) (v3 : Nat), f_Fo_findTwins_b66 G (f_Fo_findTwins_b22 G k7 F) (B 38) (nI (nbW P)) (nI i) (nI j) h2 = k7 (B 38) (nI (nbW P)) (nI (i + 1)) h3 ∧ Ch h h3 (foS B) ∧ FO h3 B hb lab3 row3 bst tw3 ∧ tw3 i = nI v3 ∧ TwI P i i v3 ∧ ∀ l, l ≠ i → tw3 l = tw l := fun h2 lab2 row2 tw2 v2 hc s2 ht2 hI2 hk2 => by
        obtain ⟨h3, lab3, row3, tw3, v3, a1, a2, a3, a4, a5, a6⟩ := ih F (j + 1) v2 h2 lab2 row2 tw2 k7 (by omega) (by omega) s2 (hg.keep hc (nF s.1 (by omega)) (nF s.1 (by omega))) ht2 hI2
        exact ⟨h3, lab3, row3, tw3, v3, by rw [f_Fo_findTwins_b66_eq, nI_1, a1], hc.tr a2, a3, a4, a5, fun l hl => (a6 l hl).trans (hk2 l hl)⟩
      have hI' : TwI P i (j + 1) v := ⟨hI.1, fun l hl q => ⟨by have := (hI.2 l hl q).1; omega, (hI.2 l hl q).2⟩⟩
      rw [f_Fo_findTwins_b22_eq, if_neg (nI_ge (by omega) (by omega)), cI_of rfl (mg_isInW hw hi)]
      by_cases q1 : (nbW P).testBit i = true
      · rw [if_pos q1, if_neg (by decide), cI_of rfl (mg_isInW hw (by omega))]
        by_cases q2 : (nbW P).testBit j = true
        · rw [if_pos q2, if_neg (by decide)]
          obtain ⟨h2, lab2, row2, b, a1, a2, a3, a4⟩ := fo_canSwap (G := G) hG hPA hP hi (show j < 6 by omega) (by omega) s hg
          rw [cI_of s.is a1]
          cases b
          · rw [if_pos (show bI false = 0 from rfl)]
            exact nxt h2 lab2 row2 tw v a2 a3 htw hI' (fun _ _ => rfl)
          · rw [if_neg (show ¬ bI true = 0 by decide), a3.f (v := B 42) rfl, Option.bind_some, aI_of a3.2.2.2.2.2 (a3.1.1 42 (by omega)) (by omega) (by omega), Option.bind_some, htw, (shl6 j (by omega)).1, (or64 v hI.1 (2 ^ j) (shl6 j (by omega)).2).1, sI_of a3.2.2.2.2.2 (a3.1.1 42 (by omega)) (by omega) (by omega), Option.bind_some]
            refine nxt _ lab2 row2 _ (v ||| 2 ^ j) (a2.tr (chF (B := B) (i := 42) (by omega))) (a3.ut _) (by simp [upd]) ⟨(or64 v hI.1 (2 ^ j) (shl6 j (by omega)).2).2, fun l hl q => ?_⟩ (fun l hl => by simp only [upd]; rw [if_neg hl])
            rw [Nat.testBit_or, Nat.testBit_two_pow, Bool.or_eq_true, decide_eq_true_eq] at q
            rcases q with q | q
            · exact hI'.2 l hl q
            · subst q; exact ⟨by omega, a4 rfl⟩
        · rw [if_neg q2, if_pos rfl]
          exact nxt h lab row tw v Ch.rf s htw hI' (fun _ _ => rfl)
      · rw [if_neg q1, if_pos rfl]
        exact nxt h lab row tw v Ch.rf s htw hI' (fun _ _ => rfl)
  have outer : ∀ (d F i : Nat) (h : pH) (lab row tw : Nat → Int32), d < F → i + d = 6 → FO h B hb lab row bst tw → Gr h (B 10) (B 21) P → (∀ l, l < i → ∃ v, tw l = nI v ∧ TwI P l l v) →
      ∃ (h2 : pH) (lab2 row2 tw2 : Nat → Int32), f_Fo_findTwins_b7 G F (B 38) (nI (nbW P)) (nI i) h = some (none, h2) ∧ Ch h h2 (foS B) ∧ FO h2 B hb lab2 row2 bst tw2 ∧ TwOK P tw2 := by
    intro d
    induction d with
    | zero =>
      intro F i h lab row tw hF hi s hg hT
      obtain ⟨F, rfl⟩ : ∃ F', F = F' + 1 := ⟨F - 1, by omega⟩
      have : i = 6 := by omega
      subst this
      refine ⟨h, lab, row, tw, by rw [f_Fo_findTwins_b7_eq, if_pos (by decide)], Ch.rf, s, fun l hl => ?_⟩
      obtain ⟨v, v1, v2, v3⟩ := hT l hl
      exact ⟨v, v2, v1, v3⟩
    | succ d ih =>
      intro F i h lab row tw hF hi s hg hT
      obtain ⟨F, rfl⟩ : ∃ F', F = F' + 1 := ⟨F - 1, by omega⟩
      have s1 := s.ut (upd tw i 0)
      have c1 := chF (B := B) (h := h) (i := 42) (e := .inl (0, 6, .inl (upd tw i 0))) (by omega)
      obtain ⟨h2, lab2, row2, tw2, v2, a1, a2, a3, a4, a5, a6⟩ := inner i (by omega) i G 0 0 _ lab row (upd tw i 0) (f_Fo_findTwins_b7 G F) (by omega) (by omega) s1 (hg.keep c1 (nF s.1 (by omega)) (nF s.1 (by omega))) (by simp [upd]; rfl) ⟨by omega, fun l hl q => by rw [Nat.zero_testBit] at q; cases q⟩
      have c2 := c1.tr a2
      obtain ⟨h3, lab3, row3, tw3, b1, b2, b3, b4⟩ := ih F (i + 1) h2 lab2 row2 tw2 (by omega) (by omega) a3 (hg.keep c2 (nF s.1 (by omega)) (nF s.1 (by omega))) (fun l hl => by
        by_cases q : l = i
        · subst q; exact ⟨v2, a4, a5⟩
        · obtain ⟨v, v1, v3⟩ := hT l (by omega)
          exact ⟨v, by rw [a6 l q]; simp only [upd]; rw [if_neg q]; exact v1, v3⟩)
      refine ⟨h3, lab3, row3, tw3, ?_, c2.tr b2, b3, b4⟩
      rw [f_Fo_findTwins_b7_eq, if_neg (show ¬ (6 : Int32) ≤ nI i from nI_ge (b := 6) (by omega) (by omega)), s.f (v := B 42) rfl, Option.bind_some, sI_of s.2.2.2.2.2 (s.1.1 42 (by omega)) (by omega) (by omega), Option.bind_some]
      refine Eq.trans ?_ b1
      exact a1
  obtain ⟨h2, lab2, row2, tw2, a1, a2, a3, a4⟩ := outer 6 G 0 h lab row tw (by omega) (by omega) s hg (fun l hl => absurd hl (by omega))
  exact ⟨h2, lab2, row2, tw2, by rw [f_Fo_findTwins_eq, cI_of s.is (fo_bits hG hP s hg)]; exact a1, a2, a3, a4⟩
end FON
/-- labels of their own are all labels -/
theorem bj_cmp {P : List Nat} {ρ σ : Nat → Nat} (hP : okL P) (h : Bj P σ) : Cmp P ρ (nbW P) 0 σ := by
  have l6 := ndL_len (g := P)
  refine ⟨fun k hk hs q => (by rw [nbW_t hP, hs] at q; cases q), fun k hk q => ?_, fun k l hk hl hn q1 q2 => ?_, fun v _ hv => ?_⟩
  · rw [nbW_t hP] at q
    have := h.1 k hk q
    omega
  · rw [nbW_t hP] at q1 q2
    exact h.2 k l hk hl hn q1 q2
  · rw [nbW_c hP, Nat.zero_add] at hv
    have aI : Asc (addP (fun _ => true) (fun t => σ (t - 40)) [] (ndL P)) := addP_asc _ _ asc_nil
    have inj : (ndL P).Pairwise (fun a b => σ (a - 40) ≠ σ (b - 40)) := (pw_inj (r := fun t => σ (t - 40)) ndL_asc).mpr (fun a ha b hb e => by
      obtain ⟨⟨a1, a2⟩, a3⟩ := ndL_mem.mp ha
      obtain ⟨⟨b1, b2⟩, b3⟩ := ndL_mem.mp hb
      by_cases q : a = b
      · exact q
      · exact absurd e (h.2 (a - 40) (b - 40) (by omega) (by omega) (by omega) (by rw [show 40 + (a - 40) = a by omega]; exact a3) (by rw [show 40 + (b - 40) = b by omega]; exact b3)))
    have len := (addP_inj (r := fun t => σ (t - 40)) (ndL P) [] asc_nil).mpr ⟨fun _ _ => List.not_mem_nil, inj⟩
    rw [List.length_nil, Nat.zero_add] at len
    have aR : Asc ((List.range (ndL P).length).map (40 + ·)) := asc_pw.mpr (List.pairwise_map.mpr (List.pairwise_lt_range.imp (fun q => by omega)))
    have same := asc_same aI aR (fun m hm => by
      rcases (addP_mem _ _).mp hm with q | ⟨t, t1, _, t3⟩
      · exact absurd q List.not_mem_nil
      · obtain ⟨⟨t4, t5⟩, t6⟩ := ndL_mem.mp t1
        have := h.1 (t - 40) (by omega) (by rw [show 40 + (t - 40) = t by omega]; exact t6)
        have t3 : σ (t - 40) = m := t3
        exact List.mem_map.mpr ⟨m - 40, List.mem_range.mpr (by omega), by omega⟩) (by rw [List.length_map, List.length_range, len]; exact Nat.le_refl _)
    have hm : 40 + v ∈ addP (fun _ => true) (fun t => σ (t - 40)) [] (ndL P) := by
      rw [same]; exact List.mem_map.mpr ⟨v, List.mem_range.mpr hv, rfl⟩
    rcases (addP_mem _ _).mp hm with q | ⟨t, t1, _, t3⟩
    · exact absurd q List.not_mem_nil
    · obtain ⟨⟨t4, t5⟩, t6⟩ := ndL_mem.mp t1
      exact ⟨t - 40, by omega, by rw [nbW_t hP, show 40 + (t - 40) = t by omega]; exact t6, t3⟩
section FOZ
variable {G : Nat} {h : pH} {B : Nat → Nat} {gs : Nat → List Nat} {cc : Int32} {cl bst : Nat → Int32}
theorem RC.fo (hr : RC h B gs cc cl bst) : ∃ (hb : Int32) (lab row tw : Nat → Int32), FO h B hb lab row bst tw := by
  obtain ⟨b, r1, a1, a2, a3, ⟨f4, a4⟩, ⟨k5, l5, a5⟩, ⟨f6, a6⟩, a7, a8, a9, a10, ⟨f11, a11⟩, ⟨b12, a12⟩, ⟨f13, a13⟩, ⟨f14, a14⟩, a15, ⟨f16, a16⟩⟩ := hr
  exact ⟨b12, f13, f14, f16, b, a12, a13, a14, a15, a16⟩
theorem FO.rc {h2 : pH} {hb : Int32} {lab row bst2 tw : Nat → Int32} (hr : RC h B gs cc cl bst) (hc : Ch h h2 (foS B)) (s : FO h2 B hb lab row bst2 tw) : RC h2 B gs cc cl bst2 := by
  obtain ⟨b, r1, a1, a2, a3, ⟨f4, a4⟩, ⟨k5, l5, a5⟩, ⟨f6, a6⟩, a7, a8, a9, a10, ⟨f11, a11⟩, ⟨b12, a12⟩, ⟨f13, a13⟩, ⟨f14, a14⟩, a15, ⟨f16, a16⟩⟩ := hr
  obtain ⟨sb, s1, s2, s3, s4, s5⟩ := s
  have k : ∀ j : Nat, j < 44 → (j < 38 ∨ j = 43) → h2.2 (B j) = h.2 (B j) := fun j hj hn => hc.2 _ (nF b hn)
  refine ⟨sb, fun i hi => (r1 i hi).keep hc (nF b (by omega)) (nF b (by omega)), (k 43 (by omega) (by omega)).trans a1, (k 22 (by omega) (by omega)).trans a2, (k 23 (by omega) (by omega)).trans a3, ⟨f4, (k 24 (by omega) (by omega)).trans a4⟩, ⟨k5, l5, (k 25 (by omega) (by omega)).trans a5⟩, ⟨f6, (k 26 (by omega) (by omega)).trans a6⟩, (k 27 (by omega) (by omega)).trans a7, fun i hi => ?_, (k 35 (by omega) (by omega)).trans a9, (k 36 (by omega) (by omega)).trans a10, ⟨f11, (k 37 (by omega) (by omega)).trans a11⟩, ⟨hb, s1⟩, ⟨lab, s2⟩, ⟨row, s3⟩, s4, ⟨tw, s5⟩⟩
  obtain ⟨f, h9⟩ := a8 i hi
  exact ⟨f, (k (28 + i) (by omega) (by omega)).trans h9⟩
/-- the form that is kept is that of the graph that is kept -/
def CI (P : List Nat) (bst : Nat → Int32) : Prop := Asc P ∧ okL P ∧ ∃ L, FormOf P L ∧ rowL bst L
theorem mg_form_no1 {x1 x2 : Int32} (hr : RC h B gs cc cl bst) (hg : ¬ okG x1) : f_Mg_form G (B 43) x1 x2 h = some (.inl 1, h) := by
  rw [f_Mg_form_eq, tR_th hr.is (mg_graphAt_no hg)]
theorem mg_form_no2 {p : Nat} {x2 : Int32} (hr : RC h B gs cc cl bst) (hp : p < 6) (hk : ¬ okK (gs p) x2) : f_Mg_form G (B 43) (nI p) x2 h = some (.inl 1, h) := by
  rw [f_Mg_form_eq, tR_of hr.is (mg_graphAt hr hp), tV_th rfl (mg_checkFact_no (hr.2.1 p (by omega)) hk)]
theorem mg_form {p k : Nat} (hG : 1000 ≤ G) (hr : RC h B gs cc cl bst) (hp : p < 6) (hA : Asc (gs p)) (hP : okL (gs p)) (hC : CI (gs 10) bst) (hk : k < (gs p).length) :
    ∃ (h2 : pH) (bst2 : Nat → Int32) (L : List Nat), f_Mg_form G (B 43) (nI p) (nI k) h = some (.inr (some (.int (nI (L.getD k 0)))), h2) ∧ Ch h h2 (inB B) ∧ RC h2 B (upG gs 10 (gs p)) cc cl bst2 ∧ CI (gs p) bst2 ∧ FormOf (gs p) L := by
  have gp := hr.2.1 p (by omega)
  have g10 := hr.2.1 10 (by omega)
  have h5 := gp.2.2.2.2.1
  obtain ⟨hb, lab, row, tw, s⟩ := hr.fo
  obtain ⟨c1, c2, L0, c3, c4⟩ := hC
  have same := gr_isSame (G := G) hG g10 gp c2.sm hP.sm
  -- the answer, the form being there
  have fin : ∀ (h2 : pH) (hb2 : Int32) (lab2 row2 bst2 tw2 : Nat → Int32) (L : List Nat), FO h2 B hb2 lab2 row2 bst2 tw2 → Gr h2 (B 10) (B 21) (gs p) → rowL bst2 L → L.length = (gs p).length → f_Fo_numberAt_b37 G (B 38) (nI k) h2 = some (some (.int (nI (L.getD k 0))), h2) := fun h2 hb2 lab2 row2 bst2 tw2 L s2 g2 hL hl => by
    rw [f_Fo_numberAt_b37_eq, if_neg (nI_pos (by omega)), s2.f (v := B 10) rfl, Option.bind_some, cI_of g2.is (gr_count g2), if_neg (nI_ge hk (by omega)), s2.f (v := B 41) rfl, Option.bind_some, aI_of s2.2.2.2.2.1 (s2.1.1 41 (by omega)) (by omega) (by omega), Option.bind_some, hL k (by omega), f_Fo_numberAt_b62_eq]
  have st : ∀ (v : Int32) (h2 : pH), f_Fo_numberAt G (B 38) (B p) (nI k) h = some (some (.int v), h2) → f_Mg_form G (B 43) (nI p) (nI k) h = some (.inr (some (.int v)), h2) := fun v h2 e => by
    rw [f_Mg_form_eq, tR_of hr.is (mg_graphAt hr hp), tV_of rfl (mg_checkFact gp hk), hr.f (v := B 38) rfl, Option.bind_some, cI_of s.is e]
  by_cases he : gs p = gs 10
  · rw [decide_eq_true he] at same
    have g10' : Gr h (B 10) (B 21) (gs p) := by rw [he]; exact g10
    refine ⟨h, bst, L0, st _ _ ?_, Ch.rf, by rw [he, upG_id]; exact hr, ⟨hA, hP, L0, by rw [he]; exact c3, c4⟩, by rw [he]; exact c3⟩
    rw [f_Fo_numberAt_eq, s.f (v := B 10) rfl, Option.bind_some, cI_of g10.is same, if_neg (show ¬ bI true = 0 by decide)]
    exact fin h hb lab row bst tw L0 s g10' c4 (by rw [c3.len c1 c2, he])
  · rw [decide_eq_false he] at same
    obtain ⟨h1, a1, a2, a3⟩ := gr_become (G := G) (by omega) g10 gp (hr.1.ne (by omega) (by omega) (by omega)) (hr.1.ne (by omega) (by omega) (by omega)) (hr.1.ne (by omega) (by omega) (by omega)) (hr.1.ne (by omega) (by omega) (by omega))
    have r1 := hr.set (by omega) a2 a3
    obtain ⟨hb1, lab1, row1, tw1, s1⟩ := r1.fo
    have s2 := s1.uh 0
    have d2 := chF (B := B) (h := h1) (i := 38) (e := .inr (2, [.ref (B 10), .ref (B 39), .ref (B 40), .ref (B 41), .int 0, .ref (B 42)])) (by omega)
    have g2 : Gr _ (B 10) (B 21) (gs p) := a3.keep d2 (nF s1.1 (by omega)) (nF s1.1 (by omega))
    have z1 : oZ h1 (B 38) 2 4 (0 : Int32) = some (hU h1 (B 38) (.inr (2, [.ref (B 10), .ref (B 39), .ref (B 40), .ref (B 41), .int 0, .ref (B 42)]))) := by
      show (if isZ (0 : Int32) then oP h1 (B 38) 2 4 (.int 0) else none) = _
      rw [if_pos (show isZ (0 : Int32) = true from rfl), oP_of s1.2.1 (s1.1.1 38 (by omega)) (Nat.le_of_ble_eq_true rfl)]
      rfl
    obtain ⟨h3, lab3, row3, tw3, b1, b2, b3, b4⟩ := fo_twins (G := G) hG hA hP s2 g2
    have g3 := g2.keep b2 (nF s1.1 (by omega)) (nF s1.1 (by omega))
    have w6 := nbW_lt hP
    have wc := nbW_c hP
    have l6 := ndL_len (g := gs p)
    obtain ⟨h4, lab4, row4, bst4, L4, e1, e2, e3, e4, e5, e6, e7, e8⟩ := fo_label (G := G) (B := B) hG hA hP b4 6 0 (nbW (gs p)) 8 (by omega) (by omega) w6 (by omega) h3 lab3 row3 bst false [] (fun _ => 0) b3 g3 (fun k hk q => by rw [nbW_t hP] at q; exact q) ⟨fun k hk hs q => (by rw [nbW_t hP, hs] at q; cases q), fun k l hk hl hn hs1 hs2 q => (by rw [nbW_t hP, hs1] at q; cases q)⟩ (fun k hk hs q => (by rw [nbW_t hP, hs] at q; cases q)) (fun q => (by cases q))
    have form : FormOf (gs p) L4 := ⟨e5, fun σ hσ => e7 σ (bj_cmp hP hσ)⟩
    have g4 := g3.keep e2 (nF s1.1 (by omega)) (nF s1.1 (by omega))
    have ch4 : Ch h1 h4 (foS B) := (d2.tr b2).tr e2
    have e1 : f_Fo_giveLabel G 8 (B 38) (0 : Int32) (nI (nbW (gs p))) h3 = some (none, h4) := e1
    refine ⟨h4, bst4, L4, st _ _ ?_, (a2.mono (inB_g (by omega))).tr (ch4.mono (fun x hx => by obtain ⟨i, i1, i2, i3⟩ := hx; exact ⟨i, by omega, i3⟩)), FO.rc r1 ch4 e3, ⟨hA, hP, L4, form, e4⟩, form⟩
    rw [f_Fo_numberAt_eq, s.f (v := B 10) rfl, Option.bind_some, cI_of g10.is same, if_pos (show bI false = 0 from rfl), s.f (v := B 10) rfl, Option.bind_some, cV_of g10.is a1, z1, Option.bind_some, cV_of s2.is b1, cI_of b3.is (fo_bits hG hP b3 g3), cV_of b3.is e1]
    exact fin h4 1 lab4 row4 bst4 tw3 L4 e3 g4 e4 (form.len hA hP)
end FOZ
