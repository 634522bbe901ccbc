/-! PURE: giveLabel -/
def clrW (w i : Nat) : Nat := if w.testBit i = true then w - 2 ^ i else w
def cntW (w : Nat) : Nat := (List.range 6).countP (fun j => w.testBit j)
theorem w_clr : ∀ w, w < 64 → ∀ i, i < 6 → nI w &&& (((1 : Int32) <<< (nI i &&& 31)) ^^^ (-1 : Int32)) = nI (clrW w i) ∧ clrW w i < 64 ∧ ∀ j, j < 6 → (clrW w i).testBit j = (w.testBit j && decide (j ≠ i)) := by decide +kernel
theorem w_cnt : ∀ w, w < 64 → ∀ i, i < 6 → w.testBit i = true → cntW (clrW w i) + 1 = cntW w := by decide +kernel
theorem w_one : ∀ w, w < 64 → (nI w &&& (nI w - 1) = 0 ↔ cntW w ≤ 1) := by decide +kernel
theorem w_uni0 : ∀ w, w < 64 → ∀ i, i < 6 → ∀ j, j < 6 → (decide (cntW w ≤ 1) && (w.testBit i && w.testBit j)) = true → i = j := by decide +kernel
theorem w_uni (w : Nat) (hw : w < 64) (i : Nat) (hi : i < 6) (j : Nat) (hj : j < 6) (h : cntW w ≤ 1) (a : w.testBit i = true) (b : w.testBit j = true) : i = j := w_uni0 w hw i hi j hj (by rw [decide_eq_true h, a, b]; rfl)
theorem w_0 : ∀ w, w < 64 → cntW w = 0 → ∀ i, i < 6 → w.testBit i = false := by decide +kernel
theorem w_1 : ∀ w, w < 64 → cntW w ≠ 0 → ∃ i, i < 6 ∧ w.testBit i = true := by decide +kernel
theorem w_and : ∀ a, a < 64 → ∀ b, b < 64 → (nI a &&& nI b = 0 ↔ ∀ j, j < 6 → ¬ (a.testBit j = true ∧ b.testBit j = true)) := by decide +kernel
theorem mg_isInW {G w i : Nat} {h : pH} (hw : w < 64) (hi : i < 6) : f_Mg_isIn G (nI w).toInt64 (nI i) h = some (some (.int (if w.testBit i = true then 1 else 0)), h) := by
  rw [nI_l (by omega), mg_isIn (by omega), tb_lN (by omega)]
/-- the rows of labels that may still come: nodes in w get labels 40 + gv and on -/
def Cmp (P : List Nat) (ρ : Nat → Nat) (w gv : Nat) (σ : Nat → Nat) : Prop := (∀ k, k < 6 → stb 2 P (40 + k) = true → w.testBit k = false → σ k = ρ k) ∧ (∀ k, k < 6 → w.testBit k = true → 40 + gv ≤ σ k ∧ σ k < 46) ∧ (∀ k l, k < 6 → l < 6 → k ≠ l → w.testBit k = true → w.testBit l = true → σ k ≠ σ l) ∧ ∀ v, gv ≤ v → v < gv + cntW w → ∃ k, k < 6 ∧ w.testBit k = true ∧ σ k = 40 + v
def Asg (P : List Nat) (ρ : Nat → Nat) (w gv : Nat) : Prop := (∀ k, k < 6 → stb 2 P (40 + k) = true → w.testBit k = false → 40 ≤ ρ k ∧ ρ k < 40 + gv) ∧ ∀ k l, k < 6 → l < 6 → k ≠ l → stb 2 P (40 + k) = true → stb 2 P (40 + l) = true → w.testBit k = false → w.testBit l = false → ρ k ≠ ρ l
def Wn (P : List Nat) (w : Nat) : Prop := ∀ k, k < 6 → w.testBit k = true → stb 2 P (40 + k) = true
def lbL (ρ : Nat → Nat) (w gv k : Nat) : Nat := if w.testBit k = true then 40 + gv else ρ k
theorem cmp_ij {P : List Nat} {ρ σ : Nat → Nat} {w gv : Nat} (hg : gv ≤ 6) (hA : Asg P ρ w gv) (h : Cmp P ρ w gv σ) : Ij P σ := by
  obtain ⟨c1, c2, c3, c4⟩ := h
  have one : ∀ k, k < 6 → stb 2 P (40 + k) = true → (w.testBit k = true ∧ 40 + gv ≤ σ k ∧ σ k < 46) ∨ (w.testBit k = false ∧ σ k = ρ k ∧ 40 ≤ ρ k ∧ ρ k < 40 + gv) := fun k hk hs => by
    cases e : w.testBit k
    · exact Or.inr ⟨rfl, c1 k hk hs e, hA.1 k hk hs e⟩
    · exact Or.inl ⟨rfl, c2 k hk e⟩
  refine ⟨fun i hi hs => ?_, fun i j hi hj hn s1 s2 => ?_⟩
  · rcases one i hi hs with ⟨_, q1, q2⟩ | ⟨_, q1, q2, q3⟩
    · omega
    · omega
  · rcases one i hi s1 with ⟨a1, a2, a3⟩ | ⟨a1, a2, a3, a4⟩
    · rcases one j hj s2 with ⟨b1, b2, b3⟩ | ⟨b1, b2, b3, b4⟩
      · exact c3 i j hi hj hn a1 b1
      · omega
    · rcases one j hj s2 with ⟨b1, b2, b3⟩ | ⟨b1, b2, b3, b4⟩
      · omega
      · rw [a2, b2]; exact hA.2 i j hi hj hn s1 s2 a1 b1
theorem cmp_ge {P : List Nat} {ρ σ : Nat → Nat} {w gv : Nat} (h : Cmp P ρ w gv σ) : ∀ k, k < 6 → stb 2 P (40 + k) = true → lbL ρ w gv k ≤ σ k := fun k hk hs => by
  unfold lbL
  cases e : w.testBit k
  · rw [if_neg (by decide), h.1 k hk hs e]; exact Nat.le_refl _
  · rw [if_pos rfl]; exact (h.2.1 k hk e).1
/-- with one node left at most, the labels are the true ones -/
theorem cmp_full {P : List Nat} {ρ : Nat → Nat} {w gv : Nat} (hw : w < 64) (hg : gv + cntW w = (ndL P).length) (h1 : cntW w ≤ 1) (hA : Asg P ρ w gv) : Bj P (lbL ρ w gv) ∧ ∀ σ, Cmp P ρ w gv σ → ∀ k, k < 6 → stb 2 P (40 + k) = true → lbL ρ w gv k = σ k := by
  have uni : ∀ i, i < 6 → ∀ j, j < 6 → w.testBit i = true → w.testBit j = true → i = j := fun i hi j hj a b => w_uni w hw i hi j hj h1 a b
  have pos : ∀ k, k < 6 → w.testBit k = true → cntW w = 1 := fun k hk e => by
    rcases Nat.lt_or_ge (cntW w) 1 with q | q
    · rw [w_0 w hw (by omega) k hk] at e; cases e
    · omega
  refine ⟨⟨fun i hi hs => ?_, fun i j hi hj hn s1 s2 => ?_⟩, fun σ hσ k hk hs => ?_⟩
  · unfold lbL
    cases e : w.testBit i
    · rw [if_neg (by decide)]
      have := hA.1 i hi hs e
      omega
    · rw [if_pos rfl]
      have := pos i hi e
      omega
  · unfold lbL
    cases e : w.testBit i
    · cases e2 : w.testBit j
      · rw [if_neg (by decide), if_neg (by decide)]; exact hA.2 i j hi hj hn s1 s2 e e2
      · rw [if_neg (by decide), if_pos rfl]; have := hA.1 i hi s1 e; omega
    · cases e2 : w.testBit j
      · rw [if_pos rfl, if_neg (by decide)]; have := hA.1 j hj s2 e2; omega
      · exact absurd (uni i hi j hj e e2) hn
  · unfold lbL
    cases e : w.testBit k
    · rw [if_neg (by decide), hσ.1 k hk hs e]
    · rw [if_pos rfl]
      obtain ⟨l, l1, l2, l3⟩ := hσ.2.2.2 gv (Nat.le_refl _) (by have := pos k hk e; omega)
      rw [uni k hk l l1 e l2]; exact l3.symm
/-- two nodes changed -/
def swp (i j k : Nat) : Nat := if k = i then j else if k = j then i else k
theorem swp_inv {i j a : Nat} (h : i ≠ j) : swp i j (swp i j a) = a := by
  unfold swp
  by_cases y1 : a = i
  · rw [if_pos y1, if_neg (fun q => h q.symm), if_pos rfl, y1]
  · rw [if_neg y1]
    by_cases y2 : a = j
    · rw [if_pos y2, if_pos rfl, y2]
    · rw [if_neg y2, if_neg y1, if_neg y2]
theorem swp_ij {P : List Nat} {i j : Nat} (hi : i < 6) (hj : j < 6) : Ij P (fun k => 40 + swp i j k) := by
  refine ⟨fun k hk _ => ?_, fun k l hk hl hn _ _ => ?_⟩
  · show 40 ≤ 40 + swp i j k ∧ 40 + swp i j k < 46
    unfold swp
    split
    · omega
    · split <;> omega
  · show 40 + swp i j k ≠ 40 + swp i j l
    unfold swp
    split
    · split
      · omega
      · split <;> omega
    · split
      · split
        · omega
        · split <;> omega
      · split
        · omega
        · split <;> omega
theorem swp_im {P : List Nat} {i j : Nat} {σ : Nat → Nat} (hP : okL P) (hi : i < 6) (hj : j < 6) (hS : imG P (fun k => 40 + swp i j k) = P) : imG P (fun k => σ (swp i j k)) = imG P σ := by
  have tt := (swp_ij (P := P) hi hj).tot hP
  have lt6 : ∀ k, k < 6 → swp i j k < 6 := fun k hk => by
    unfold swp
    split
    · exact hj
    · split <;> omega
  have comp : ∀ n ∈ P, ren (fun k => σ (swp i j k)) n = ren σ (ren (fun k => 40 + swp i j k) n) := fun n hn => by
    obtain ⟨a1, a2, a3⟩ := ren_p (ρ := fun k => 40 + swp i j k) (n := n) (by have := tt.b hP (st_o hn); omega)
    have one : ∀ t, stb 2 P t = true → tr (fun k => σ (swp i j k)) t = tr σ (tr (fun k => 40 + swp i j k) t) := fun t ht => by
      have h46 := stb_lt hP ht
      by_cases q : 40 ≤ t
      · have l := lt6 (t - 40) (by omega)
        have e1 : tr (fun k => 40 + swp i j k) t = 40 + swp i j (t - 40) := if_pos ⟨q, h46⟩
        rw [e1]
        unfold tr
        rw [if_pos ⟨q, h46⟩, if_pos (by omega), show 40 + swp i j (t - 40) - 40 = swp i j (t - 40) by omega]
      · have e1 : tr (fun k => 40 + swp i j k) t = t := if_neg (fun x => q x.1)
        rw [e1]
        unfold tr
        rw [if_neg (fun x => q x.1), if_neg (fun x => q x.1)]
    show 4096 * tr _ (n / 4096) + 64 * (n / 64 % 64) + tr _ (n % 64) = 4096 * tr σ (ren (fun k => 40 + swp i j k) n / 4096) + 64 * (ren (fun k => 40 + swp i j k) n / 64 % 64) + tr σ (ren (fun k => 40 + swp i j k) n % 64)
    rw [a1, a2, a3, one _ (st_s hn), one _ (st_o hn)]
  refine asc_ext (addP_asc _ _ asc_nil) (addP_asc _ _ asc_nil) (fun m => ?_)
  unfold imG
  rw [addP_mem, addP_mem]
  constructor
  · rintro (q | ⟨n, n1, _, n3⟩)
    · exact absurd q List.not_mem_nil
    · rw [comp n n1] at n3
      refine Or.inr ⟨ren (fun k => 40 + swp i j k) n, ?_, rfl, n3⟩
      rw [← hS]
      exact (addP_mem _ _).mpr (Or.inr ⟨n, n1, rfl, rfl⟩)
  · rintro (q | ⟨n, n1, _, n3⟩)
    · exact absurd q List.not_mem_nil
    · rw [← hS] at n1
      rcases (addP_mem _ _).mp n1 with q | ⟨k, k1, _, k3⟩
      · exact absurd q List.not_mem_nil
      · exact Or.inr ⟨k, k1, rfl, by rw [comp k k1, k3]; exact n3⟩
def TwOK (P : List Nat) (tw : Nat → Int32) : Prop := ∀ i, i < 6 → ∃ v, v < 64 ∧ tw i = nI v ∧ ∀ j, j < 6 → v.testBit j = true → j < i ∧ imG P (fun k => 40 + swp i j k) = P
section FOL
variable {G : Nat} {B : Nat → Nat} {tw : Nat → Int32} {P : List Nat}
/-- giveLabel: the labels for the time being, the row, the look at the best -/
theorem fo_pre {rec : Nat → Int32 → Int32 → pH → Option pR} {h : pH} {lab row bst : Nat → Int32} {hb : Bool} {L : List Nat} {ρ : Nat → Nat} {w gv : Nat} (hG : 1000 ≤ G) (hP : okL P) (hgv : gv < 6 ∨ (gv = 6 ∧ w = 0)) (hw : w < 64) (s : FO h B (bI hb) lab row bst tw) (hg : Gr h (B 10) (B 21) P) (hA : Asg P ρ w gv) (hl : ∀ k, k < 6 → stb 2 P (40 + k) = true → w.testBit k = false → lab k = nI (ρ k)) (hbst : hb = true → rowL bst L ∧ L.length = P.length ∧ ∀ m ∈ L, m < 2 ^ 20) :
    ∃ (h1 : pH) (lab1 row1 : Nat → Int32), Ch h h1 (foS B) ∧ FO h1 B (bI hb) lab1 row1 bst tw ∧ (∀ k, k < 6 → stb 2 P (40 + k) = true → w.testBit k = false → lab1 k = lab k) ∧ rowL row1 (srF (ren (lbL ρ w gv)) [] P) ∧
      ((f_Fo_giveLabel_rec G rec (B 38) (nI gv) (nI w) h = some (none, h1) ∧ hb = true ∧ lexL L (srF (ren (lbL ρ w gv)) [] P)) ∨ (f_Fo_giveLabel_rec G rec (B 38) (nI gv) (nI w) h = f_Fo_giveLabel_b72 G rec (B 38) (nI gv) (nI w) (nI (40 + gv)) h1 ∧ (hb = true → lexL (srF (ren (lbL ρ w gv)) [] P) L))) := by
  have h5 := hg.2.2.2.2.1
  have tt : tot (lbL ρ w gv) P := fun t h40 ht => by
    have h46 := stb_lt hP ht
    unfold lbL
    cases e : w.testBit (t - 40)
    · rw [if_neg (by decide)]
      have := hA.1 (t - 40) (by omega) (by rw [show 40 + (t - 40) = t by omega]; exact ht) e
      omega
    · rw [if_pos rfl]
      rcases hgv with q | ⟨_, q⟩
      · omega
      · rw [q, Nat.zero_testBit] at e; cases e
  have lp : ∀ (d F i : Nat) (f : Nat → Int32), d < F → i + d = 6 → (∀ k, k < 6 → w.testBit k = false → f k = lab k) → (∀ k, k < i → w.testBit k = true → f k = nI (40 + gv)) →
      ∃ f2 : Nat → Int32, f_Fo_giveLabel_b8 G rec F (B 38) (nI gv) (nI w) (nI (40 + gv)) (nI i) (hU h (B 39) (.inl (0, 6, .inl f))) = f_Fo_giveLabel_b8 G rec (F - d) (B 38) (nI gv) (nI w) (nI (40 + gv)) (nI 6) (hU h (B 39) (.inl (0, 6, .inl f2))) ∧ (∀ k, k < 6 → w.testBit k = false → f2 k = lab k) ∧ (∀ k, k < 6 → w.testBit k = true → f2 k = nI (40 + gv)) := by
    intro d
    induction d with
    | zero =>
      intro F i f hF hi h1 h2
      have : i = 6 := by omega
      subst this
      exact ⟨f, rfl, h1, h2⟩
    | succ d ih =>
      intro F i f hF hi h1 h2
      obtain ⟨F, rfl⟩ : ∃ F', F = F' + 1 := ⟨F - 1, by omega⟩
      have s1 := s.ul f
      rw [f_Fo_giveLabel_b8_eq, if_neg (show ¬ (6 : Int32) ≤ nI i from nI_ge (b := 6) (by omega) (by omega)), cI_of rfl (mg_isInW hw (by omega)), show F + 1 - (d + 1) = F - d by omega]
      cases e : w.testBit i
      · rw [if_pos (show (if false = true then (1 : Int32) else 0) = 0 from rfl), f_Fo_giveLabel_b33_eq, nI_1]
        exact ih F (i + 1) f (by omega) (by omega) h1 (fun k hk q => by
          rcases Nat.lt_or_ge k i with q2 | q2
          · exact h2 k q2 q
          · rw [show k = i by omega, e] at q; cases q)
      · rw [if_neg (show ¬ (if true = true then (1 : Int32) else 0) = 0 by decide), s1.f (v := B 39) rfl, Option.bind_some, sI_of s1.2.2.1 (s1.1.1 39 (by omega)) (by omega) (by omega), Option.bind_some, hU_u, f_Fo_giveLabel_b33_eq, nI_1]
        exact ih F (i + 1) _ (by omega) (by omega) (fun k hk q => by
          simp only [upd]
          rw [if_neg (fun x => by subst x; rw [e] at q; cases q)]
          exact h1 k hk q) (fun k hk q => by
          simp only [upd]
          by_cases q2 : k = i
          · rw [if_pos q2]
          · rw [if_neg q2]; exact h2 k (by omega) q)
  obtain ⟨f2, a1, a2, a3⟩ := lp 6 G 0 lab (by omega) (by omega) (fun _ _ _ => rfl) (fun k hk => absurd hk (by omega))
  rw [hU_id s.2.2.1] at a1
  have s1 := s.ul f2
  have c1 := chF (B := B) (h := h) (i := 39) (e := .inl (0, 6, .inl f2)) (by omega)
  have g1 := hg.keep c1 (nF s.1 (by omega)) (nF s.1 (by omega))
  have ron : rowOn f2 (lbL ρ w gv) P := fun t h40 ht => by
    have h46 := stb_lt hP ht
    have ht' : stb 2 P (40 + (t - 40)) = true := by rw [show 40 + (t - 40) = t by omega]; exact ht
    unfold lbL
    cases e : w.testBit (t - 40)
    · rw [if_neg (by decide), a2 _ (by omega) e]; exact hl _ (by omega) ht' e
    · rw [if_pos rfl]; exact a3 _ (by omega) e
  obtain ⟨row1, b1, b2⟩ := fo_writeRow (G := G) hG hP s1 g1 tt ron
  have s2 := s1.ur row1
  have c2 := c1.tr (chF (B := B) (i := 40) (e := .inl (0, 30, .inl row1)) (by omega))
  have g2 := hg.keep c2 (nF s.1 (by omega)) (nF s.1 (by omega))
  have e0 : f_Fo_giveLabel_rec G rec (B 38) (nI gv) (nI w) h = f_Fo_giveLabel_b8 G rec (G - 6 - 1 + 1) (B 38) (nI gv) (nI w) (nI (40 + gv)) (nI 6) (hU h (B 39) (.inl (0, 6, .inl f2))) := by
    rw [f_Fo_giveLabel_rec_eq, show (40 : Int32) = nI 40 from rfl, nI_add, show G - 6 - 1 + 1 = G - 6 by omega]
    exact a1
  have hlen : (srF (ren (lbL ρ w gv)) [] P).length = P.length := by rw [srF_len, List.length_nil, Nat.zero_add]
  have hsm : ∀ m ∈ srF (ren (lbL ρ w gv)) [] P, m < 2 ^ 20 := by
    have gen : ∀ (M g : List Nat), (∀ n ∈ M, ren (lbL ρ w gv) n < 2 ^ 20) → (∀ n ∈ g, n < 2 ^ 20) → ∀ n ∈ srF (ren (lbL ρ w gv)) g M, n < 2 ^ 20 := by
      intro M
      induction M with
      | nil => intro g _ h n hn; exact h n hn
      | cons m M ih2 =>
        intro g h1 h2 n hn
        refine ih2 _ (fun q hq => h1 q (List.mem_cons_of_mem _ hq)) (fun q hq => ?_) n hn
        rcases (ins_mem g).mp hq with e | e
        · rw [e]; exact h1 m List.mem_cons_self
        · exact h2 q e
    exact gen P [] (fun n hn => (ren_ok hP tt hn).lt) (fun n hn => absurd hn List.not_mem_nil)
  refine ⟨_, f2, row1, c2, s2, fun k hk _ q => a2 k hk q, b2, ?_⟩
  rw [e0, f_Fo_giveLabel_b8_eq, if_pos (by decide), cV_of s1.is b1, s2.ghb, Option.bind_some]
  cases hb
  · rw [if_pos (show bI false = 0 from rfl)]
    exact Or.inr ⟨rfl, fun q => (by cases q)⟩
  · obtain ⟨r1, r2, r3⟩ := hbst rfl
    obtain ⟨b, d1, d2, d3⟩ := mg_before (G := G) hG s2.2.2.2.1 (s2.1.1 40 (by omega)) s2.2.2.2.2.1 (s2.1.1 41 (by omega)) b2 r1 hlen r2 h5 hsm r3
    rw [if_neg (show ¬ bI true = 0 by decide), s2.f (v := B 40) rfl, Option.bind_some, s2.f (v := B 41) rfl, Option.bind_some, s2.f (v := B 10) rfl, Option.bind_some, cI_of g2.is (gr_count g2), cI_of rfl d1]
    cases b
    · rw [if_pos (show bI false = 0 from rfl)]
      exact Or.inl ⟨rfl, rfl, d3 rfl⟩
    · rw [if_neg (show ¬ bI true = 0 by decide)]
      exact Or.inr ⟨rfl, fun _ => d2 rfl⟩
theorem bj_sm {σ : Nat → Nat} (hP : okL P) (h : Bj P σ) : ∀ m ∈ imG P σ, m < 2 ^ 20 := fun m hm => by
  rcases (addP_mem _ _).mp hm with q | ⟨n, n1, _, n3⟩
  · exact absurd q List.not_mem_nil
  · rw [← n3]; exact (ren_ok hP (h.ij.tot hP) n1).lt
/-- what giveLabel does -/
def GL (G : Nat) (B : Nat → Nat) (tw : Nat → Int32) (P : List Nat) (D gv w : Nat) : Prop := ∀ (h : pH) (lab row bst : Nat → Int32) (hb : Bool) (L : List Nat) (ρ : Nat → Nat), FO h B (bI hb) lab row bst tw → Gr h (B 10) (B 21) P → Wn P w → Asg P ρ w gv → (∀ k, k < 6 → stb 2 P (40 + k) = true → w.testBit k = false → lab k = nI (ρ k)) → (hb = true → rowL bst L ∧ ∃ σ, Bj P σ ∧ L = imG P σ) →
  ∃ (h2 : pH) (lab2 row2 bst2 : Nat → Int32) (L2 : List Nat), f_Fo_giveLabel G D (B 38) (nI gv) (nI w) h = some (none, h2) ∧ Ch h h2 (foS B) ∧ FO h2 B 1 lab2 row2 bst2 tw ∧ rowL bst2 L2 ∧ (∃ σ, Bj P σ ∧ L2 = imG P σ) ∧ (hb = true → lexL L2 L) ∧ (∀ σ, Cmp P ρ w gv σ → lexL L2 (imG P σ)) ∧ ∀ k, k < 6 → stb 2 P (40 + k) = true → w.testBit k = false → lab2 k = lab k
theorem fo_label (hG : 1000 ≤ G) (hPA : Asc P) (hP : okL P) (hT : TwOK P tw) : ∀ (e gv w D : Nat), cntW w ≤ e → e < D → w < 64 → gv + cntW w = (ndL P).length → GL G B tw P D gv w := by
  have l6 := ndL_len (g := P)
  intro e
  induction e with
  | zero =>
    intro gv w D hc hD hw hN h lab row bst hb L ρ s hg hWn hA hl hbst
    obtain ⟨D, rfl⟩ : ∃ D', D = D' + 1 := ⟨D - 1, by omega⟩
    have hgv : gv < 6 ∨ (gv = 6 ∧ w = 0) := by
      rcases Nat.lt_or_ge gv 6 with q | q
      · exact Or.inl q
      · refine Or.inr ⟨by omega, ?_⟩
        have : ∀ w, w < 64 → cntW w = 0 → w = 0 := by decide +kernel
        exact this w hw (by omega)
    obtain ⟨h1, lab1, row1, p1, p2, p3, p4, p5⟩ := fo_pre (G := G) (rec := f_Fo_giveLabel G D) hG hP hgv hw s hg hA hl (fun q => ⟨(hbst q).1, by
      obtain ⟨σ, s1, s2⟩ := (hbst q).2
      rw [s2]; exact ⟨s1.ij.len hPA hP, bj_sm hP s1⟩⟩)
    have fl := cmp_full hw hN (by omega) hA
    have sr := fl.1.ij.srF hPA hP
    rw [sr] at p4 p5
    rw [f_Fo_giveLabel_eq]
    rcases p5 with ⟨q1, q2, q3⟩ | ⟨q1, q2⟩
    · subst q2
      refine ⟨h1, lab1, row1, bst, L, q1, p1, p2, (hbst rfl).1, (hbst rfl).2, fun _ => lexL.rf, fun σ hσ => ?_, p3⟩
      rw [← imG_c hP (fun i hi hs => fl.2 σ hσ i hi hs)]; exact q3
    · have g1 := hg.keep p1 (nF s.1 (by omega)) (nF s.1 (by omega))
      obtain ⟨h2, bst2, k1, k2, k3, k4⟩ := fo_keepRow (G := G) hG p2 g1 p4 (fl.1.ij.len hPA hP)
      refine ⟨h2, lab1, row1, bst2, _, ?_, p1.tr k2, k3, k4, ⟨_, fl.1, rfl⟩, q2, fun σ hσ => ?_, p3⟩
      · rw [q1, f_Fo_giveLabel_b72_eq, if_pos ((w_one w hw).mpr (by omega)), f_Fo_giveLabel_b86_eq, cV_of p2.is k1]
      · rw [← imG_c hP (fun i hi hs => fl.2 σ hσ i hi hs)]; exact lexL.rf
  | succ e ih =>
    intro gv w D hc hD hw hN h lab row bst hb L ρ s hg hWn hA hl hbst
    obtain ⟨D, rfl⟩ : ∃ D', D = D' + 1 := ⟨D - 1, by omega⟩
    have hgv : gv < 6 ∨ (gv = 6 ∧ w = 0) := by
      rcases Nat.lt_or_ge gv 6 with q | q
      · exact Or.inl q
      · refine Or.inr ⟨by omega, ?_⟩
        have : ∀ w, w < 64 → cntW w = 0 → w = 0 := by decide +kernel
        exact this w hw (by omega)
    have hbst2 : hb = true → rowL bst L ∧ L.length = P.length ∧ ∀ m ∈ L, m < 2 ^ 20 := fun q => ⟨(hbst q).1, by
      obtain ⟨σ, s1, s2⟩ := (hbst q).2
      rw [s2]; exact ⟨s1.ij.len hPA hP, bj_sm hP s1⟩⟩
    obtain ⟨h1, lab1, row1, p1, p2, p3, p4, p5⟩ := fo_pre (G := G) (rec := f_Fo_giveLabel G D) hG hP hgv hw s hg hA hl hbst2
    have g1 := hg.keep p1 (nF s.1 (by omega)) (nF s.1 (by omega))
    rw [f_Fo_giveLabel_eq]
    -- no row that may come is before the row for the time being
    have bound : ∀ σ, Cmp P ρ w gv σ → lexL (srF (ren (lbL ρ w gv)) [] P) (imG P σ) := fun σ hσ => by
      have ij := cmp_ij (by omega) hA hσ
      rw [← ij.srF hPA hP]
      exact ple_lex _ _ (srF_ple P [] [] (fun n hn => ren_le hP hn (cmp_ge hσ)) trivial List.Pairwise.nil List.Pairwise.nil)
    have hlen : (srF (ren (lbL ρ w gv)) [] P).length = P.length := by rw [srF_len, List.length_nil, Nat.zero_add]
    rcases p5 with ⟨q1, q2, q3⟩ | ⟨q1, q2⟩
    · subst q2
      exact ⟨h1, lab1, row1, bst, L, q1, p1, p2, (hbst rfl).1, (hbst rfl).2, fun _ => lexL.rf, fun σ hσ => lexL.tr ((hbst2 rfl).2.1.trans hlen.symm) q3 (bound σ hσ), p3⟩
    · by_cases h1c : cntW w ≤ 1
      · have fl := cmp_full hw hN h1c hA
        have sr := fl.1.ij.srF hPA hP
        rw [sr] at p4 q2
        obtain ⟨h2, bst2, k1, k2, k3, k4⟩ := fo_keepRow (G := G) hG p2 g1 p4 (fl.1.ij.len hPA hP)
        refine ⟨h2, lab1, row1, bst2, _, ?_, p1.tr k2, k3, k4, ⟨_, fl.1, rfl⟩, q2, fun σ hσ => ?_, p3⟩
        · rw [q1, f_Fo_giveLabel_b72_eq, if_pos ((w_one w hw).mpr h1c), f_Fo_giveLabel_b86_eq, cV_of p2.is k1]
        · rw [← imG_c hP (fun i hi hs => fl.2 σ hσ i hi hs)]; exact lexL.rf
      · -- each node that is left, in turn
        have hgv6 : gv < 6 := by omega
        have lp : ∀ (d F i : Nat) (h1 : pH) (lab1 row1 bst1 : Nat → Int32) (hb1 : Bool) (L1 : List Nat), d < F → i + d = 6 → FO h1 B (bI hb1) lab1 row1 bst1 tw → Gr h1 (B 10) (B 21) P → (∀ k, k < 6 → stb 2 P (40 + k) = true → w.testBit k = false → lab1 k = lab k) → (hb1 = true → rowL bst1 L1 ∧ ∃ σ, Bj P σ ∧ L1 = imG P σ) → (hb = true → hb1 = true ∧ lexL L1 L) → (∀ j, j < i → w.testBit j = true → hb1 = true ∧ ∀ σ, Cmp P ρ w gv σ → σ j = 40 + gv → lexL L1 (imG P σ)) →
            ∃ (h2 : pH) (lab2 row2 bst2 : Nat → Int32) (L2 : List Nat), f_Fo_giveLabel_b94 G (f_Fo_giveLabel G D) F (B 38) (nI gv) (nI w) (nI (40 + gv)) (nI i) h1 = some (none, h2) ∧ Ch h1 h2 (foS B) ∧ FO h2 B 1 lab2 row2 bst2 tw ∧ rowL bst2 L2 ∧ (∃ σ, Bj P σ ∧ L2 = imG P σ) ∧ (hb = true → lexL L2 L) ∧ (∀ σ, Cmp P ρ w gv σ → lexL L2 (imG P σ)) ∧ ∀ k, k < 6 → stb 2 P (40 + k) = true → w.testBit k = false → lab2 k = lab k := by
          intro d
          induction d with
          | zero =>
            intro F i h1 lab1 row1 bst1 hb1 L1 hF hi s1 g1 hl1 hb1r hb1o hcov
            obtain ⟨F, rfl⟩ : ∃ F', F = F' + 1 := ⟨F - 1, by omega⟩
            have : i = 6 := by omega
            subst this
            obtain ⟨j, j1, j2⟩ := w_1 w hw (by omega)
            have ht := (hcov j j1 j2).1
            subst ht
            refine ⟨h1, lab1, row1, bst1, L1, by rw [f_Fo_giveLabel_b94_eq, if_pos (by decide)], Ch.rf, s1, (hb1r rfl).1, (hb1r rfl).2, fun q => (hb1o q).2, fun σ hσ => ?_, hl1⟩
            obtain ⟨k, k1, k2, k3⟩ := hσ.2.2.2 gv (Nat.le_refl _) (by omega)
            exact (hcov k k1 k2).2 σ hσ k3
          | succ d ihd =>
            intro F i h1 lab1 row1 bst1 hb1 L1 hF hi s1 g1 hl1 hb1r hb1o hcov
            obtain ⟨F, rfl⟩ : ∃ F', F = F' + 1 := ⟨F - 1, by omega⟩
            rw [f_Fo_giveLabel_b94_eq, if_neg (show ¬ (6 : Int32) ≤ nI i from nI_ge (b := 6) (by omega) (by omega)), cI_of rfl (mg_isInW hw (by omega))]
            -- the next
            have nxt : ∀ (h2 : pH) (lab2 row2 bst2 : Nat → Int32) (hb2 : Bool) (L2 : List Nat), Ch h1 h2 (foS B) → FO h2 B (bI hb2) lab2 row2 bst2 tw → (∀ k, k < 6 → stb 2 P (40 + k) = true → w.testBit k = false → lab2 k = lab k) → (hb2 = true → rowL bst2 L2 ∧ ∃ σ, Bj P σ ∧ L2 = imG P σ) → (hb = true → hb2 = true ∧ lexL L2 L) → (∀ j, j < i + 1 → w.testBit j = true → hb2 = true ∧ ∀ σ, Cmp P ρ w gv σ → σ j = 40 + gv → lexL L2 (imG P σ)) →
                ∃ (h2' : pH) (lab2 row2 bst2 : Nat → Int32) (L2 : List Nat), f_Fo_giveLabel_b146 G (f_Fo_giveLabel G D) (f_Fo_giveLabel_b94 G (f_Fo_giveLabel G D) F) (B 38) (nI gv) (nI w) (nI (40 + gv)) (nI i) h2 = some (none, h2') ∧ Ch h1 h2' (foS B) ∧ FO h2' B 1 lab2 row2 bst2 tw ∧ rowL bst2 L2 ∧ (∃ σ, Bj P σ ∧ L2 = imG P σ) ∧ (hb = true → lexL L2 L) ∧ (∀ σ, Cmp P ρ w gv σ → lexL L2 (imG P σ)) ∧ ∀ k, k < 6 → stb 2 P (40 + k) = true → w.testBit k = false → lab2 k = lab k := fun h2 lab2 row2 bst2 hb2 L2 hc s2 hl2 hb2r hb2o hcov2 => by
              obtain ⟨h3, lab3, row3, bst3, L3, c1, c2, c3, c4, c5, c6, c7, c8⟩ := ihd F (i + 1) h2 lab2 row2 bst2 hb2 L2 (by omega) (by omega) s2 (g1.keep hc (nF s1.1 (by omega)) (nF s1.1 (by omega))) hl2 hb2r hb2o hcov2
              exact ⟨h3, lab3, row3, bst3, L3, by rw [f_Fo_giveLabel_b146_eq, nI_1, c1], hc.tr c2, c3, c4, c5, c6, c7, c8⟩
            cases hwi : w.testBit i
            · rw [if_pos (show (if false = true then (1 : Int32) else 0) = 0 from rfl)]
              refine nxt h1 lab1 row1 bst1 hb1 L1 Ch.rf s1 hl1 hb1r hb1o (fun j hj q => ?_)
              rcases Nat.lt_or_ge j i with q2 | q2
              · exact hcov j q2 q
              · rw [show j = i by omega, hwi] at q; cases q
            · rw [if_neg (show ¬ (if true = true then (1 : Int32) else 0) = 0 by decide)]
              obtain ⟨v, v1, v2, v3⟩ := hT i (by omega)
              have rd : aI h1 (B 42) (nI i) = some (nI v) := by rw [aI_of s1.2.2.2.2.2 (s1.1.1 42 (by omega)) (by omega) (by omega), v2]
              rw [s1.f (v := B 42) rfl, Option.bind_some, rd, Option.bind_some]
              have wa := w_and v v1 w hw
              by_cases hz : nI v &&& nI w = 0
              · -- node i gets the label
                rw [if_pos hz, s1.f (v := B 39) rfl, Option.bind_some, sI_of s1.2.2.1 (s1.1.1 39 (by omega)) (by omega) (by omega), Option.bind_some]
                have s2 := s1.ul (upd lab1 i (nI (40 + gv)))
                have c2 := chF (B := B) (h := h1) (i := 39) (e := .inl (0, 6, .inl (upd lab1 i (nI (40 + gv))))) (by omega)
                obtain ⟨x1, x2, x3⟩ := w_clr w hw i (by omega)
                have x4 := w_cnt w hw i (by omega) hwi
                have i7 : nI gv + (1 : Int32) = nI (gv + 1) := nI_1 gv
                have hWn2 : Wn P (clrW w i) := fun k hk q => hWn k hk (by rw [x3 k hk, Bool.and_eq_true] at q; exact q.1)
                have not2 : ∀ k, k < 6 → (clrW w i).testBit k = false → k ≠ i → w.testBit k = false := fun k hk q q2 => by
                  rw [x3 k hk, decide_eq_true q2, Bool.and_true] at q; exact q
                have hA2 : Asg P (uU ρ i (40 + gv)) (clrW w i) (gv + 1) := by
                  refine ⟨fun k hk hs q => ?_, fun k l hk hl2 hn s1' s2' q1' q2' => ?_⟩
                  · unfold uU
                    by_cases q2 : k = i
                    · rw [if_pos q2]; omega
                    · rw [if_neg q2]
                      have := hA.1 k hk hs (not2 k hk q q2)
                      omega
                  · unfold uU
                    by_cases q3 : k = i
                    · rw [if_pos q3, if_neg (fun x => hn (q3.trans x.symm))]
                      have := hA.1 l hl2 s2' (not2 l hl2 q2' (fun x => hn (q3.trans x.symm)))
                      omega
                    · rw [if_neg q3]
                      by_cases q4 : l = i
                      · rw [if_pos q4]
                        have := hA.1 k hk s1' (not2 k hk q1' q3)
                        omega
                      · rw [if_neg q4]
                        exact hA.2 k l hk hl2 hn s1' s2' (not2 k hk q1' q3) (not2 l hl2 q2' q4)
                obtain ⟨h3, lab3, row3, bst3, L3, d1, d2, d3, d4, d5, d6, d7, d8⟩ := ih (gv + 1) (clrW w i) D (by omega) (by omega) x2 (by omega) _ (upd lab1 i (nI (40 + gv))) row1 bst1 hb1 L1 (uU ρ i (40 + gv)) s2 (g1.keep c2 (nF s1.1 (by omega)) (nF s1.1 (by omega))) hWn2 hA2 (fun k hk hs q => by
                  simp only [upd, uU]
                  by_cases q2 : k = i
                  · rw [if_pos q2, if_pos q2]
                  · rw [if_neg q2, if_neg q2, hl1 k hk hs (not2 k hk q q2)]
                    exact hl k hk hs (not2 k hk q q2)) hb1r
                rw [x1, i7, cV_of s2.is d1]
                refine nxt h3 lab3 row3 bst3 true L3 (c2.tr d2) d3 (fun k hk hs q => ?_) (fun _ => ⟨d4, d5⟩) (fun q => ⟨rfl, ?_⟩) (fun j hj q => ⟨rfl, fun σ hσ hσj => ?_⟩)
                · have q2 : k ≠ i := fun x => by subst x; rw [hwi] at q; cases q
                  rw [d8 k hk hs (by rw [x3 k hk, q, Bool.false_and])]
                  simp only [upd]
                  rw [if_neg q2]; exact hl1 k hk hs q
                · obtain ⟨o1, o2⟩ := hb1o q
                  have lL : L3.length = L1.length := by
                    obtain ⟨σ, s1', s2'⟩ := d5
                    obtain ⟨τ, t1, t2⟩ := (hb1r o1).2
                    rw [s2', t2, s1'.ij.len hPA hP, t1.ij.len hPA hP]
                  exact lexL.tr lL (d6 o1) o2
                · rcases Nat.lt_or_ge j i with q2 | q2
                  · obtain ⟨o1, o2⟩ := hcov j q2 q
                    have lL : L3.length = L1.length := by
                      obtain ⟨σ', s1', s2'⟩ := d5
                      obtain ⟨τ, t1, t2⟩ := (hb1r o1).2
                      rw [s2', t2, s1'.ij.len hPA hP, t1.ij.len hPA hP]
                    exact lexL.tr lL (d6 o1) (o2 σ hσ hσj)
                  · have : j = i := by omega
                    subst this
                    refine d7 σ ⟨fun k hk hs q3 => ?_, fun k hk q3 => ?_, fun k l hk hl2 hn q3 q4 => ?_, fun u h1' h2' => ?_⟩
                    · unfold uU
                      by_cases q4 : k = j
                      · rw [if_pos q4, q4]; exact hσj
                      · rw [if_neg q4]; exact hσ.1 k hk hs (not2 k hk q3 q4)
                    · rw [x3 k hk, Bool.and_eq_true, decide_eq_true_eq] at q3
                      have a1 := hσ.2.1 k hk q3.1
                      have a2 := hσ.2.2.1 k j hk (by omega) q3.2 q3.1 hwi
                      omega
                    · rw [x3 k hk, Bool.and_eq_true] at q3
                      rw [x3 l hl2, Bool.and_eq_true] at q4
                      exact hσ.2.2.1 k l hk hl2 hn q3.1 q4.1
                    · obtain ⟨k, k1, k2, k3⟩ := hσ.2.2.2 u (by omega) (by omega)
                      refine ⟨k, k1, ?_, k3⟩
                      rw [x3 k k1, k2, Bool.true_and, decide_eq_true_eq]
                      exact fun x => by subst x; omega
              · -- a twin of i has shown it already
                rw [if_neg hz]
                have ex : ∃ j, j < 6 ∧ v.testBit j = true ∧ w.testBit j = true := Classical.byContradiction fun q => hz (wa.mpr fun j hj x => q ⟨j, hj, x.1, x.2⟩)
                obtain ⟨j, j1, j2, j3⟩ := ex
                obtain ⟨ji, jS⟩ := v3 j j1 j2
                obtain ⟨o1, o2⟩ := hcov j ji j3
                refine nxt h1 lab1 row1 bst1 hb1 L1 Ch.rf s1 hl1 hb1r hb1o (fun k hk q => ⟨o1, fun σ hσ hσk => ?_⟩)
                rcases Nat.lt_or_ge k i with q2 | q2
                · exact (hcov k q2 q).2 σ hσ hσk
                · have : k = i := by omega
                  subst this
                  rw [← swp_im (σ := σ) hP (show k < 6 by omega) j1 jS]
                  have sw1 : swp k j j = k := by unfold swp; rw [if_neg (by omega), if_pos rfl]
                  have sww : ∀ a, a < 6 → w.testBit (swp k j a) = w.testBit a := fun a ha => by
                    unfold swp
                    by_cases y1 : a = k
                    · rw [if_pos y1, y1, hwi, j3]
                    · rw [if_neg y1]
                      by_cases y2 : a = j
                      · rw [if_pos y2, y2, hwi, j3]
                      · rw [if_neg y2]
                  have sw6 : ∀ a, a < 6 → swp k j a < 6 := fun a ha => by
                    unfold swp
                    split
                    · exact j1
                    · split <;> omega
                  have swi : ∀ a b, swp k j a = swp k j b → a = b := fun a b x => by
                    rw [← swp_inv (i := k) (j := j) (a := a) (by omega), x, swp_inv (by omega)]
                  refine o2 (fun a => σ (swp k j a)) ⟨fun a ha hs q3 => ?_, fun a ha q3 => hσ.2.1 _ (sw6 a ha) (by rw [sww a ha]; exact q3), fun a b ha hb2 hn q3 q4 => hσ.2.2.1 _ _ (sw6 a ha) (sw6 b hb2) (fun x => hn (swi a b x)) (by rw [sww a ha]; exact q3) (by rw [sww b hb2]; exact q4), fun u h1' h2' => ?_⟩ (by show σ (swp k j j) = _; rw [sw1]; exact hσk)
                  · have y1 : a ≠ k := fun x => by subst x; rw [hwi] at q3; cases q3
                    have y2 : a ≠ j := fun x => by subst x; rw [j3] at q3; cases q3
                    show σ (swp k j a) = _
                    have : swp k j a = a := by unfold swp; rw [if_neg y1, if_neg y2]
                    rw [this]; exact hσ.1 a ha hs q3
                  · obtain ⟨a, a1, a2, a3⟩ := hσ.2.2.2 u h1' h2'
                    have inv : swp k j (swp k j a) = a := swp_inv (by omega)
                    exact ⟨swp k j a, sw6 a a1, by rw [sww a a1]; exact a2, by show σ (swp k j (swp k j a)) = _; rw [inv]; exact a3⟩
        obtain ⟨h3, lab3, row3, bst3, L3, c1, c2, c3, c4, c5, c6, c7, c8⟩ := lp 6 G 0 h1 lab1 row1 bst hb L (by omega) (by omega) p2 g1 p3 hbst (fun q => ⟨q, lexL.rf⟩) (fun j hj => absurd hj (by omega))
        refine ⟨h3, lab3, row3, bst3, L3, ?_, p1.tr c2, c3, c4, c5, c6, c7, c8⟩
        rw [q1, f_Fo_giveLabel_b72_eq, if_neg (fun q => h1c ((w_one w hw).mp q)), if_pos (show nI gv < (6 : Int32) from nI_lt (b := 6) hgv6 (by omega))]
        exact c1
end FOL
