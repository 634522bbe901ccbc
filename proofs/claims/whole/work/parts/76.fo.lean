/-! PURE: the class's FormFinder: its cells, writeRow, keepRow -/
def FO (h : pH) (B : Nat → Nat) (hb : Int32) (lab row bst tw : Nat → Int32) : Prop :=
  BK h B ∧ h.2 (B 38) = .inr (2, [.ref (B 10), .ref (B 39), .ref (B 40), .ref (B 41), .int hb, .ref (B 42)]) ∧ h.2 (B 39) = .inl (0, 6, .inl lab) ∧ h.2 (B 40) = .inl (0, 30, .inl row) ∧ h.2 (B 41) = .inl (0, 30, .inl bst) ∧ h.2 (B 42) = .inl (0, 6, .inl tw)
def foS (B : Nat → Nat) : Nat → Prop := fun x => ∃ i : Nat, 38 ≤ i ∧ i < 43 ∧ x = B i
section FOB
variable {h : pH} {B : Nat → Nat} {hb : Int32} {lab row bst tw : Nat → Int32}
theorem FO.is (s : FO h B hb lab row bst tw) : oC h (B 38) 2 = true := oC_of s.2.1 (s.1.1 38 (by omega))
theorem FO.f (s : FO h B hb lab row bst tw) {j v : Nat} (hj : [Value.ref (B 10), .ref (B 39), .ref (B 40), .ref (B 41), .int hb, .ref (B 42)][j]? = some (.ref v)) : gR h (B 38) 2 j = some v := gR_of s.2.1 (s.1.1 38 (by omega)) hj
theorem FO.ghb (s : FO h B hb lab row bst tw) : gI h (B 38) 2 4 = some hb := gI_of s.2.1 (s.1.1 38 (by omega)) rfl
theorem nF (b : BK h B) {i : Nat} (hi : i < 38 ∨ i = 43) : ¬ foS B (B i) := by
  rintro ⟨j, h1, h2, h4⟩
  exact b.ne (by omega) (by omega) (by omega) h4
theorem FO.ul (s : FO h B hb lab row bst tw) (f : Nat → Int32) : FO (hU h (B 39) (.inl (0, 6, .inl f))) B hb f row bst tw := by
  obtain ⟨b, a1, a2, a3, a4, a5⟩ := s
  have k : ∀ j : Nat, j < 44 → j ≠ 39 → ∀ e : pE, (hU h (B 39) e).2 (B j) = h.2 (B j) := fun j hj hn e => hU_n h e (b.ne (by omega) (by omega) hn)
  exact ⟨b, (k 38 (by omega) (by omega) _).trans a1, hU_s _ _ _, (k 40 (by omega) (by omega) _).trans a3, (k 41 (by omega) (by omega) _).trans a4, (k 42 (by omega) (by omega) _).trans a5⟩
theorem FO.ur (s : FO h B hb lab row bst tw) (f : Nat → Int32) : FO (hU h (B 40) (.inl (0, 30, .inl f))) B hb lab f bst tw := by
  obtain ⟨b, a1, a2, a3, a4, a5⟩ := s
  have k : ∀ j : Nat, j < 44 → j ≠ 40 → ∀ e : pE, (hU h (B 40) e).2 (B j) = h.2 (B j) := fun j hj hn e => hU_n h e (b.ne (by omega) (by omega) hn)
  exact ⟨b, (k 38 (by omega) (by omega) _).trans a1, (k 39 (by omega) (by omega) _).trans a2, hU_s _ _ _, (k 41 (by omega) (by omega) _).trans a4, (k 42 (by omega) (by omega) _).trans a5⟩
theorem FO.ub (s : FO h B hb lab row bst tw) (f : Nat → Int32) : FO (hU h (B 41) (.inl (0, 30, .inl f))) B hb lab row f tw := by
  obtain ⟨b, a1, a2, a3, a4, a5⟩ := s
  have k : ∀ j : Nat, j < 44 → j ≠ 41 → ∀ e : pE, (hU h (B 41) e).2 (B j) = h.2 (B j) := fun j hj hn e => hU_n h e (b.ne (by omega) (by omega) hn)
  exact ⟨b, (k 38 (by omega) (by omega) _).trans a1, (k 39 (by omega) (by omega) _).trans a2, (k 40 (by omega) (by omega) _).trans a3, hU_s _ _ _, (k 42 (by omega) (by omega) _).trans a5⟩
theorem FO.ut (s : FO h B hb lab row bst tw) (f : Nat → Int32) : FO (hU h (B 42) (.inl (0, 6, .inl f))) B hb lab row bst f := by
  obtain ⟨b, a1, a2, a3, a4, a5⟩ := s
  have k : ∀ j : Nat, j < 44 → j ≠ 42 → ∀ e : pE, (hU h (B 42) e).2 (B j) = h.2 (B j) := fun j hj hn e => hU_n h e (b.ne (by omega) (by omega) hn)
  exact ⟨b, (k 38 (by omega) (by omega) _).trans a1, (k 39 (by omega) (by omega) _).trans a2, (k 40 (by omega) (by omega) _).trans a3, (k 41 (by omega) (by omega) _).trans a4, hU_s _ _ _⟩
theorem FO.uh (s : FO h B hb lab row bst tw) (x : Int32) : FO (hU h (B 38) (.inr (2, [.ref (B 10), .ref (B 39), .ref (B 40), .ref (B 41), .int x, .ref (B 42)]))) B x lab row bst tw := by
  obtain ⟨b, a1, a2, a3, a4, a5⟩ := s
  have k : ∀ j : Nat, j < 44 → j ≠ 38 → ∀ e : pE, (hU h (B 38) e).2 (B j) = h.2 (B j) := fun j hj hn e => hU_n h e (b.ne (by omega) (by omega) hn)
  exact ⟨b, hU_s _ _ _, (k 39 (by omega) (by omega) _).trans a2, (k 40 (by omega) (by omega) _).trans a3, (k 41 (by omega) (by omega) _).trans a4, (k 42 (by omega) (by omega) _).trans a5⟩
theorem chF {i : Nat} {e : pE} (hi : 38 ≤ i ∧ i < 43) : Ch h (hU h (B i) e) (foS B) := Ch.u ⟨i, hi.1, hi.2, rfl⟩
end FOB
section FOW
variable {G : Nat} {B : Nat → Nat} {hb : Int32} {lab bst tw : Nat → Int32} {P : List Nat} {ρ : Nat → Nat}
/-- a number put into the row -/
theorem fo_ins {c x : Nat} {x1 : Int32} {L : List Nat} {k2 : Nat → Int32 → pH → Option pR} {h : pH} {row0 : Nat → Int32} (s : FO h B hb lab row0 bst tw) (hx : x < 2 ^ 20) (hL : ∀ n ∈ L, n < 2 ^ 20) (c2 : ∀ i, i < c → L.getD i 0 ≤ x) (c3 : ∀ i, c ≤ i → i < L.length → x < L.getD i 0) (l30 : L.length < 30) :
    ∀ (d F : Nat) (f : Nat → Int32), d < F → c + d ≤ L.length → (∀ i, i < c + d → f i = nI (L.getD i 0)) →
      f_Fo_writeRow_b31 G k2 F (B 38) x1 (nI x) (nI (c + d)) (hU h (B 40) (.inl (0, 30, .inl f))) = k2 (B 38) (x1 + 1) (hU h (B 40) (.inl (0, 30, .inl (upd (shU f c d) c (nI x))))) := by
  intro d
  induction d with
  | zero =>
    intro F f hF hd hf
    obtain ⟨F, rfl⟩ : ∃ F', F = F' + 1 := ⟨F - 1, by omega⟩
    have s1 := s.ur f
    have e0 : shU f c 0 = f := funext fun i => by unfold shU; rw [if_neg (by omega)]
    have fin : f_Fo_writeRow_b67 G k2 (B 38) x1 (nI x) (nI c) (hU h (B 40) (.inl (0, 30, .inl f))) = k2 (B 38) (x1 + 1) (hU h (B 40) (.inl (0, 30, .inl (upd (shU f c 0) c (nI x))))) := by
      rw [f_Fo_writeRow_b67_eq, s1.f (v := B 40) rfl, Option.bind_some, sI_of s1.2.2.2.1 (s1.1.1 40 (by omega)) (by omega) (by omega), Option.bind_some, hU_u, e0]
    show f_Fo_writeRow_b31 G k2 (F + 1) (B 38) x1 (nI x) (nI c) _ = _
    rw [f_Fo_writeRow_b31_eq]
    by_cases h0 : c = 0
    · rw [if_pos (by rw [h0]; decide), fin]
    · obtain ⟨w, hw⟩ : ∃ w, c = w + 1 := ⟨c - 1, by omega⟩
      have q := c2 w (by omega)
      have q2 : nI c - 1 = nI w := by rw [hw, nI_pred]
      have m := hL (L.getD w 0) (mem_getD.mpr ⟨w, by omega, rfl⟩)
      rw [if_neg (nI_nle (by omega) (by omega)), s1.f (v := B 40) rfl, Option.bind_some, q2, aI_of s1.2.2.2.1 (s1.1.1 40 (by omega)) (by omega) (by omega), Option.bind_some, hf w (by omega), if_pos (nI_le q (by omega)), fin]
  | succ d ih =>
    intro F f hF hd hf
    obtain ⟨F, rfl⟩ : ∃ F', F = F' + 1 := ⟨F - 1, by omega⟩
    have s1 := s.ur f
    have q := c3 (c + d) (by omega) (by omega)
    have m := hL (L.getD (c + d) 0) (mem_getD.mpr ⟨c + d, by omega, rfl⟩)
    have e : upd (shU (upd f (c + d + 1) (f (c + d))) c d) c (nI x) = upd (shU f c (d + 1)) c (nI x) := funext fun i => by
      simp only [upd, shU]
      by_cases h1 : i = c
      · rw [if_pos h1, if_pos h1]
      · rw [if_neg h1, if_neg h1]
        by_cases h2 : c < i ∧ i ≤ c + d
        · rw [if_pos h2, if_neg (by omega), if_pos (by omega)]
        · rw [if_neg h2]
          by_cases h3 : i = c + d + 1
          · rw [if_pos h3, if_pos (by omega), h3]; rfl
          · rw [if_neg h3, if_neg (by omega)]
    have q3 : nI (c + (d + 1)) - 1 = nI (c + d) := by rw [← Nat.add_assoc, nI_pred]
    have q4 : nI (c + (d + 1)) + (-1) = nI (c + d) := by rw [← Nat.add_assoc, pk_m1]
    rw [f_Fo_writeRow_b31_eq, if_neg (nI_nle (by omega) (by omega)), s1.f (v := B 40) rfl, Option.bind_some, q3, aI_of s1.2.2.2.1 (s1.1.1 40 (by omega)) (by omega) (by omega), Option.bind_some, hf (c + d) (by omega), if_neg (nI_ge q (by omega)), Option.bind_some, Option.bind_some, aI_of s1.2.2.2.1 (s1.1.1 40 (by omega)) (by omega) (by omega), Option.bind_some, sI_of s1.2.2.2.1 (s1.1.1 40 (by omega)) (by omega) (by omega), Option.bind_some, hU_u, q4]
    have i1 := ih F (upd f (c + (d + 1)) (f (c + d))) (by omega) (by omega) (fun i hi => by
      simp only [upd]
      rw [if_neg (by omega)]
      exact hf i (by omega))
    rw [i1]
    have e2 : upd f (c + (d + 1)) (f (c + d)) = upd f (c + d + 1) (f (c + d)) := rfl
    rw [e2, e]
theorem fo_writeRow {h : pH} {row : Nat → Int32} (hG : 1000 ≤ G) (hP : okL P) (s : FO h B hb lab row bst tw) (hg : Gr h (B 10) (B 21) P) (hρ : tot ρ P) (hf : rowOn lab ρ P) :
    ∃ (row2 : Nat → Int32), f_Fo_writeRow G (B 38) h = some (none, hU h (B 40) (.inl (0, 30, .inl row2))) ∧ rowL row2 (srF (ren ρ) [] P) := by
  have h5 := hg.2.2.2.2.1
  have lp : ∀ (d F k : Nat) (f : Nat → Int32), d < F → k + d = P.length → rowL f (srF (ren ρ) [] (P.take k)) → ∃ (row2 : Nat → Int32), f_Fo_writeRow_b2 G F (B 38) (nI k) (hU h (B 40) (.inl (0, 30, .inl f))) = some (none, hU h (B 40) (.inl (0, 30, .inl row2))) ∧ rowL row2 (srF (ren ρ) [] P) := by
    intro d
    induction d with
    | zero =>
      intro F k f hF hk hl
      obtain ⟨F, rfl⟩ : ∃ F', F = F' + 1 := ⟨F - 1, by omega⟩
      have s1 := s.ur f
      have g1 := hg.keep (chF (B := B) (i := 40) (e := .inl (0, 30, .inl f)) (by omega)) (nF s.1 (by omega)) (nF s.1 (by omega))
      rw [List.take_of_length_le (by omega)] at hl
      exact ⟨f, by rw [f_Fo_writeRow_b2_eq, s1.f (v := B 10) rfl, Option.bind_some, cI_of g1.is (gr_count g1), if_pos (nI_le (by omega) (by omega))], hl⟩
    | succ d ih =>
      intro F k f hF hk hl
      obtain ⟨F, rfl⟩ : ∃ F', F = F' + 1 := ⟨F - 1, by omega⟩
      have s1 := s.ur f
      have g1 := hg.keep (chF (B := B) (i := 40) (e := .inl (0, 30, .inl f)) (by omega)) (nF s.1 (by omega)) (nF s.1 (by omega))
      have hmem : P.getD k 0 ∈ P := mem_getD.mpr ⟨k, by omega, rfl⟩
      have n20 := (ren_ok hP hρ hmem).lt
      have sl := srF_srt (r := ren ρ) (P.take k) [] List.Pairwise.nil
      have ll := srF_len (r := ren ρ) (P.take k) []
      rw [List.length_nil, Nat.zero_add, List.length_take] at ll
      obtain ⟨c, c1, c2, c3, c4⟩ := ins_at (x := ren ρ (P.getD k 0)) _ sl
      have hL : ∀ n ∈ srF (ren ρ) [] (P.take k), n < 2 ^ 20 := by
        have gen : ∀ (L g : List Nat), (∀ n ∈ L, ren ρ n < 2 ^ 20) → (∀ n ∈ g, n < 2 ^ 20) → ∀ n ∈ srF (ren ρ) g L, n < 2 ^ 20 := by
          intro L
          induction L with
          | nil => intro g _ h n hn; exact h n hn
          | cons m L ih2 =>
            intro g h1 h2 n hn
            refine ih2 _ (fun q hq => h1 q (List.mem_cons_of_mem _ hq)) (fun q hq => ?_) n hn
            rcases (ins_mem g).mp hq with e | e
            · rw [e]; exact h1 m List.mem_cons_self
            · exact h2 q e
        exact gen (P.take k) [] (fun n hn => (ren_ok hP hρ (List.mem_of_mem_take hn)).lt) (fun n hn => absurd hn List.not_mem_nil)
      have stp := fo_ins (G := G) (x1 := nI k) (k2 := f_Fo_writeRow_b2 G F) s n20 hL c2 c3 (by omega) (k - c) G f (by omega) (by omega) (fun i hi => hl i (by omega))
      rw [show c + (k - c) = k by omega, nI_1] at stp
      obtain ⟨row2, b1, b2⟩ := ih F (k + 1) (upd (shU f c (k - c)) c (nI (ren ρ (P.getD k 0)))) (by omega) (by omega) (by
        rw [srF1 (by omega), c4]
        intro i hi
        rw [insL_len c1] at hi
        rw [insL_get c1]
        simp only [upd, shU]
        by_cases h1 : i = c
        · rw [if_pos h1, if_neg (by omega), if_pos h1]
        · rw [if_neg h1]
          by_cases h2 : i < c
          · rw [if_neg (by omega), if_pos h2]; exact hl i (by omega)
          · rw [if_pos (by omega), if_neg h2, if_neg h1]; exact hl (i - 1) (by omega))
      refine ⟨row2, ?_, b2⟩
      rw [f_Fo_writeRow_b2_eq, s1.f (v := B 10) rfl, Option.bind_some, cI_of g1.is (gr_count g1), if_neg (nI_ge (by omega) (by omega)), s1.f (v := B 10) rfl, Option.bind_some, cI_of g1.is (gr_at g1 (by omega)), if_pos (by omega), s1.f (v := B 39) rfl, Option.bind_some, cI_of rfl (mg_renamed s1.2.2.1 (s1.1.1 39 (by omega)) hP hρ hf hmem), stp, b1]
  obtain ⟨row2, b1, b2⟩ := lp P.length G 0 row (by omega) (by omega) rowL_nil
  rw [hU_id s.2.2.2.1] at b1
  exact ⟨row2, by rw [f_Fo_writeRow_eq]; exact b1, b2⟩
theorem fo_keepRow {h : pH} {row : Nat → Int32} {L : List Nat} (hG : 1000 ≤ G) (s : FO h B hb lab row bst tw) (hg : Gr h (B 10) (B 21) P) (hL : rowL row L) (hl : L.length = P.length) :
    ∃ (h2 : pH) (bst2 : Nat → Int32), f_Fo_keepRow G (B 38) h = some (none, h2) ∧ Ch h h2 (foS B) ∧ FO h2 B 1 lab row bst2 tw ∧ rowL bst2 L := by
  have h5 := hg.2.2.2.2.1
  have lp : ∀ (d F k : Nat) (h : pH) (f : Nat → Int32), d < F → k + d = P.length → FO h B 1 lab row f tw → Gr h (B 10) (B 21) P → (∀ i, i < k → f i = nI (L.getD i 0)) → ∃ (h2 : pH) (bst2 : Nat → Int32), f_Fo_keepRow_b7 G F (B 38) (nI k) h = some (none, h2) ∧ Ch h h2 (foS B) ∧ FO h2 B 1 lab row bst2 tw ∧ rowL bst2 L := by
    intro d
    induction d with
    | zero =>
      intro F k h f hF hk s hg hf
      obtain ⟨F, rfl⟩ : ∃ F', F = F' + 1 := ⟨F - 1, by omega⟩
      exact ⟨h, f, by rw [f_Fo_keepRow_b7_eq, s.f (v := B 10) rfl, Option.bind_some, cI_of hg.is (gr_count hg), if_pos (nI_le (by omega) (by omega))], Ch.rf, s, fun i hi => hf i (by omega)⟩
    | succ d ih =>
      intro F k h f hF hk s hg hf
      obtain ⟨F, rfl⟩ : ∃ F', F = F' + 1 := ⟨F - 1, by omega⟩
      have c := chF (B := B) (h := h) (i := 41) (e := .inl (0, 30, .inl (upd f k (row k)))) (by omega)
      obtain ⟨h2, b2, a1, a2, a3, a4⟩ := ih F (k + 1) _ (upd f k (row k)) (by omega) (by omega) (s.ub _) (hg.keep c (nF s.1 (by omega)) (nF s.1 (by omega))) (fun i hi => by
        simp only [upd]
        by_cases q : i = k
        · rw [if_pos q, q]; exact hL k (by omega)
        · rw [if_neg q]; exact hf i (by omega))
      refine ⟨h2, b2, ?_, c.tr a2, a3, a4⟩
      rw [f_Fo_keepRow_b7_eq, s.f (v := B 10) rfl, Option.bind_some, cI_of hg.is (gr_count hg), if_neg (nI_ge (by omega) (by omega)), s.f (v := B 41) rfl, Option.bind_some, s.f (v := B 40) rfl, Option.bind_some, aI_of s.2.2.2.1 (s.1.1 40 (by omega)) (by omega) (by omega), Option.bind_some, sI_of s.2.2.2.2.1 (s.1.1 41 (by omega)) (by omega) (by omega), Option.bind_some, nI_1, a1]
  have c := chF (B := B) (h := h) (i := 38) (e := .inr (2, [.ref (B 10), .ref (B 39), .ref (B 40), .ref (B 41), .int 1, .ref (B 42)])) (by omega)
  obtain ⟨h2, b2, a1, a2, a3, a4⟩ := lp P.length G 0 _ bst (by omega) (by omega) (s.uh 1) (hg.keep c (nF s.1 (by omega)) (nF s.1 (by omega))) (fun i hi => absurd hi (by omega))
  refine ⟨h2, b2, ?_, c.tr a2, a3, a4⟩
  have z1 : oZ h (B 38) 2 4 (1 : Int32) = some (hU h (B 38) (.inr (2, [.ref (B 10), .ref (B 39), .ref (B 40), .ref (B 41), .int 1, .ref (B 42)]))) := by
    show (if isZ (1 : Int32) then oP h (B 38) 2 4 (.int 1) else none) = _
    rw [if_pos (show isZ (1 : Int32) = true from rfl), oP_of s.2.1 (s.1.1 38 (by omega)) (Nat.le_of_ble_eq_true rfl)]
    rfl
  rw [f_Fo_keepRow_eq, z1, Option.bind_some]
  exact a1
/-- isBefore on two rows of numbers -/
theorem mg_before {h : pH} {f g : Nat → Int32} {x y n : Nat} {L M : List Nat} (hG : 1000 ≤ G) (hx : h.2 x = .inl (0, 30, .inl f)) (hxl : x ∈ h.1) (hy : h.2 y = .inl (0, 30, .inl g)) (hyl : y ∈ h.1) (hf : rowL f L) (hg : rowL g M) (l1 : L.length = n) (l2 : M.length = n) (hn : n ≤ 30) (sL : ∀ m ∈ L, m < 2 ^ 20) (sM : ∀ m ∈ M, m < 2 ^ 20) :
    ∃ b : Bool, f_Mg_isBefore G x y (nI n) h = some (some (.int (bI b)), h) ∧ (b = true → lexL L M) ∧ (b = false → lexL M L) := by
  have lp : ∀ (d F i : Nat), d < F → i + d = n → (∀ j, j < i → L.getD j 0 = M.getD j 0) → ∃ b : Bool, f_Mg_isBefore_b2 G F x y (nI n) (nI i) h = some (some (.int (bI b)), h) ∧ (b = true → lexL L M) ∧ (b = false → lexL M L) := by
    intro d
    induction d with
    | zero =>
      intro F i hF hi he
      obtain ⟨F, rfl⟩ : ∃ F', F = F' + 1 := ⟨F - 1, by omega⟩
      refine ⟨false, by rw [f_Mg_isBefore_b2_eq, if_pos (nI_le (by omega) (by omega)), f_Mg_isBefore_b49_eq]; rfl, fun q => (by cases q), fun _ k hk _ => ?_⟩
      rw [he k (by omega)]; exact Nat.le_refl _
    | succ d ih =>
      intro F i hF hi he
      obtain ⟨F, rfl⟩ : ∃ F', F = F' + 1 := ⟨F - 1, by omega⟩
      have m1 := sL _ (mem_getD.mpr ⟨i, by omega, rfl⟩)
      have m2 := sM _ (mem_getD.mpr ⟨i, by omega, rfl⟩)
      rw [f_Mg_isBefore_b2_eq, if_neg (nI_ge (by omega) (by omega)), aL_of hx hxl, Option.bind_some, if_neg (show ¬ nI 30 ≤ nI i from nI_ge (by omega) (by omega)), aL_of hy hyl, Option.bind_some, if_neg (show ¬ nI 30 ≤ nI i from nI_ge (by omega) (by omega)), aI_of hx hxl (by omega) (by omega), Option.bind_some, aI_of hy hyl (by omega) (by omega), Option.bind_some, Option.bind_some, Option.bind_some, hf i (by omega), hg i (by omega)]
      by_cases q : L.getD i 0 = M.getD i 0
      · rw [if_pos (by rw [q]), nI_1]
        exact ih F (i + 1) (by omega) (by omega) (fun j hj => by
          rcases Nat.lt_or_ge j i with q2 | q2
          · exact he j q2
          · rw [show j = i by omega]; exact q)
      · rw [if_neg (fun e => q ((nI_eq (by omega) (by omega)).mp e))]
        by_cases q2 : M.getD i 0 ≤ L.getD i 0
        · rw [if_pos (nI_le q2 (by omega)), f_Mg_isBefore_b42_eq]
          refine ⟨false, rfl, fun q => (by cases q), fun _ k hk hag => ?_⟩
          rcases Nat.lt_trichotomy k i with q3 | q3 | q3
          · rw [he k q3]; exact Nat.le_refl _
          · subst q3; exact q2
          · exact absurd (hag i q3) q
        · rw [if_neg (nI_ge (by omega) (by omega)), f_Mg_isBefore_b42_eq]
          refine ⟨true, rfl, fun _ k hk hag => ?_, fun q => (by cases q)⟩
          rcases Nat.lt_trichotomy k i with q3 | q3 | q3
          · rw [he k q3]; exact Nat.le_refl _
          · subst q3; omega
          · exact absurd (hag i q3).symm q
  rw [f_Mg_isBefore_eq]
  exact lp n G 0 (by omega) (by omega) (fun j hj => absurd hj (by omega))
/-- isSameRow(row) -/
theorem gr_sameRow {h : pH} {a q x : Nat} {g M : List Nat} {f : Nat → Int32} (hG : 1000 ≤ G) (hg : Gr h a q g) (hx : h.2 x = .inl (0, 30, .inl f)) (hxl : x ∈ h.1) (hf : rowL f M) (hl : M.length = g.length) (sg1 : Sm g) (sM : ∀ m ∈ M, m < 2 ^ 20) : f_Gr_isSameRow G a x h = some (some (.int (bI (decide (M = g)))), h) := by
  have h5 := hg.2.2.2.2.1
  have lp : ∀ (d F i : Nat), d < F → i + d = g.length → (∀ j, j < i → g.getD j 0 = M.getD j 0) → f_Gr_isSameRow_b2 G F a x (nI i) h = some (some (.int (bI (decide (M = g)))), h) := by
    intro d
    induction d with
    | zero =>
      intro F i hF hi he
      obtain ⟨F, rfl⟩ : ∃ F', F = F' + 1 := ⟨F - 1, by omega⟩
      have e : M = g := List.ext_getElem hl (fun j h3 h4 => by
        have := he j (by omega)
        rw [List.getD_eq_getElem?_getD, List.getD_eq_getElem?_getD, List.getElem?_eq_getElem h3, List.getElem?_eq_getElem h4] at this
        exact this.symm)
      rw [f_Gr_isSameRow_b2_eq, hg.cnt, Option.bind_some, if_pos (nI_le (by omega) (by omega)), f_Gr_isSameRow_b36_eq, decide_eq_true e]; rfl
    | succ d ih =>
      intro F i hF hi he
      obtain ⟨F, rfl⟩ : ∃ F', F = F' + 1 := ⟨F - 1, by omega⟩
      have m1 := sg1 i (by omega)
      have m2 := sM _ (mem_getD.mpr ⟨i, by omega, rfl⟩)
      rw [f_Gr_isSameRow_b2_eq, hg.cnt, Option.bind_some, if_neg (nI_ge (by omega) (by omega)), aL_of hx hxl, Option.bind_some, if_neg (show ¬ nI 30 ≤ nI i from nI_ge (by omega) (by omega)), hg.row, Option.bind_some, hg.at (by omega), Option.bind_some, aI_of hx hxl (by omega) (by omega), Option.bind_some, hf i (by omega)]
      by_cases q2 : g.getD i 0 = M.getD i 0
      · rw [if_pos (by rw [q2]), nI_1]
        exact ih F (i + 1) (by omega) (by omega) (fun j hj => by
          rcases Nat.lt_or_ge j i with q3 | q3
          · exact he j q3
          · rw [show j = i by omega]; exact q2)
      · rw [if_neg (fun e => q2 ((nI_eq (by omega) (by omega)).mp e)), decide_eq_false (fun e => q2 (by rw [e]))]; rfl
  rw [f_Gr_isSameRow_eq]
  exact lp g.length G 0 (by omega) (by omega) (fun j hj => absurd hj (by omega))
theorem gr_isSame {h : pH} {a q b r : Nat} {g k : List Nat} (hG : 1000 ≤ G) (hg : Gr h a q g) (hb : Gr h b r k) (sg1 : Sm g) (sk : Sm k) : f_Gr_isSame G a b h = some (some (.int (bI (decide (k = g)))), h) := by
  have h5 := hg.2.2.2.2.1
  have h6 := hb.2.2.2.2.1
  obtain ⟨_, r2, _, _, _, f, r6, r7⟩ := id hb
  rw [f_Gr_isSame_eq, hg.cnt, Option.bind_some, hb.cnt, Option.bind_some]
  by_cases hl : g.length = k.length
  · have sr := gr_sameRow (G := G) hG hg r6 r2 r7 hl.symm sg1 (fun m hm => Sm_mem.mp sk m hm)
    rw [if_pos (by rw [hl]), hb.row, Option.bind_some, cI_of hg.is sr]
    cases decide (k = g)
    · rw [if_pos (show bI false = 0 from rfl), f_Gr_isSame_b26_eq, f_Gr_isSame_b27_eq]; rfl
    · rw [if_neg (show ¬ bI true = 0 by decide), f_Gr_isSame_b27_eq]; rfl
  · rw [if_neg (fun e => hl ((nI_eq (by omega) (by omega)).mp e)), decide_eq_false (fun e => hl (by rw [e])), f_Gr_isSame_b26_eq, f_Gr_isSame_b27_eq]; rfl
end FOW
