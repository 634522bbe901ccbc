/-! PURE: the reference's search: the loop -/
/-- may the l-th node have its term -/
def gdL (P T : List Nat) (w : Nat) (u : Nat → Nat) (l : Nat) : Bool := (decide (w ≠ 0) || nwT u l) && arT P T u (l + 1)
/-- is the whole row wanted -/
def acW (P : List Nat) (w : Nat) (u : Nat → Nat) : Bool := decide (w ≠ 2) || decide ((addP (fun _ => true) (ren (ru P u)) [] P).length < P.length)
def Ext (P T TM : List Nat) (w l : Nat) (u v : Nat → Nat) : Prop := (∀ k, k < l → v k = u k) ∧ (∀ k, l ≤ k → k < (ndL P).length → v k ∈ TM ∧ gdL P T w v k = true) ∧ acW P w v = true
theorem gdL_c {P T : List Nat} {w l : Nat} {u v : Nat → Nat} (h : ∀ k, k ≤ l → u k = v k) : gdL P T w u l = gdL P T w v l := by
  unfold gdL
  rw [nwT_c h, arT_c (fun k hk => h k (by omega))]
theorem lst_le {P : List Nat} {n : Nat} (hP : okL P) (hn : n ∈ P) : lst P n ≤ (ndL P).length := Nat.max_le.mpr ⟨ixT_le hP (st_s hn), ixT_le hP (st_o hn)⟩
theorem addP_c {r s : Nat → Nat} : ∀ (l g : List Nat), (∀ n ∈ l, r n = s n) → addP (fun _ => true) r g l = addP (fun _ => true) s g l := by
  intro l
  induction l with
  | nil => intro g _; rfl
  | cons n l ih =>
    intro g h
    show addP _ r (if true = true then gIns (r n) g else g) l = addP _ s (if true = true then gIns (s n) g else g) l
    rw [h n List.mem_cons_self]
    exact ih _ (fun k hk => h k (List.mem_cons_of_mem _ hk))
theorem acW_c {P : List Nat} {w : Nat} {u v : Nat → Nat} (hP : okL P) (h : ∀ k, k < (ndL P).length → u k = v k) : acW P w u = acW P w v := by
  unfold acW
  rw [addP_c P [] (fun n hn => ren_lst (lst_le hP hn) h)]
/-- what the search leaves as it is -/
def Kp (S0 : Nat → Int32) (R0 : Nat → Nat → Int32) (S : Nat → Int32) (R : Nat → Nat → Int32) : Prop := (∀ j, j ≠ 4 → S j = S0 j) ∧ ∀ j, j ≠ 3 → j ≠ 10 → j ≠ 11 → R j = R0 j
theorem Kp.rf {S0 : Nat → Int32} {R0 : Nat → Nat → Int32} : Kp S0 R0 S0 R0 := ⟨fun _ _ => rfl, fun _ _ _ _ => rfl⟩
/-- how many turns -/
def Wc : Nat → Nat
  | 0 => 0
  | e + 1 => 46 * (1 + Wc e) + 1
def lexU (N l : Nat) (u v : Nat → Nat) : Prop := ∀ k, l ≤ k → k < N → (∀ j, l ≤ j → j < k → v j = u j) → u k ≤ v k
def uU (u : Nat → Nat) (l t : Nat) : Nat → Nat := fun k => if k = l then t else u k
section MSX
variable {G : Nat} {h : pH} {m : Nat} {A : Nat → Nat} {gs : Nat → List Nat} {S0 : Nat → Int32} {R0 : Nat → Nat → Int32}
theorem mo_explore {g i w : Nat} {TM : List Nat} (hG : 1000 ≤ G) (ha : moA h m A) (hg : g < 6) (hi : i < 6) (hw : w < 3) (hR0 : moG R0 gs) (hN0 : moN S0 R0 (ndL (gs g))) (hT0 : moT S0 R0 TM) (oP1 : okL (gs g)) (oT : okL (gs i)) (tmA : Asc TM) (tm46 : ∀ t ∈ TM, t < 46) (tml : TM.length ≤ 46) :
    ∀ (e l : Nat), l + (e + 1) = (ndL (gs g)).length → ∀ (d a : Nat), a + d = TM.length → ∀ (u : Nat → Nat) (S : Nat → Int32) (R : Nat → Nat → Int32) (F : Nat), Kp S0 R0 S R → (∀ k, k < l → R 11 k = nI (u k)) → (∀ k, k < l → u k < 46) → R 10 l = m1 a → d * (1 + Wc e) + 1 < F →
      (∃ (σ : Nat → Nat) (S2 : Nat → Int32) (R2 : Nat → Nat → Int32), f_Mo_search_b77 G F m (nI g) (nI i) (nI w) (nI l) (moH h m A S R) = some (some (.int 1), moH h m A S2 R2) ∧ Kp S0 R0 S2 R2 ∧ (∀ k, k < (ndL (gs g)).length → R2 11 k = nI (σ k)) ∧ Ext (gs g) (gs i) TM w l u σ ∧ ∀ τ, Ext (gs g) (gs i) TM w l u τ → (∃ j, a ≤ j ∧ j < TM.length ∧ TM.getD j 0 = τ l) → lexU (ndL (gs g)).length l σ τ) ∨
      ((∀ τ, Ext (gs g) (gs i) TM w l u τ → ∀ j, a ≤ j → j < TM.length → TM.getD j 0 ≠ τ l) ∧ ∃ (F2 : Nat) (S2 : Nat → Int32) (R2 : Nat → Nat → Int32), F ≤ F2 + (d * (1 + Wc e) + 1) ∧ f_Mo_search_b77 G F m (nI g) (nI i) (nI w) (nI l) (moH h m A S R) = f_Mo_search_b77 G F2 m (nI g) (nI i) (nI w) (m1 l) (moH h m A S2 R2) ∧ Kp S0 R0 S2 R2 ∧ ∀ k, k < l → R2 10 k = R 10 k ∧ R2 11 k = R 11 k) := by
  have l6 := ndL_len (g := gs g)
  intro e
  induction e with
  | zero =>
    intro l hl d
    induction d with
    | zero =>
      intro a hd u S R F hK hU h46 hat hF
      obtain ⟨F, rfl⟩ : ∃ F', F = F' + 1 := ⟨F - 1, by omega⟩
      refine Or.inr ⟨fun τ _ j h1 h2 => absurd h2 (by omega), F, S, upR R 10 (upd (R 10) l (nI a)), by omega, ?_, ⟨hK.1, fun j h1 h2 h3 => by rw [upR_n h2]; exact hK.2 j h1 h2 h3⟩, fun k hk => ⟨by rw [upR_s]; simp only [upd]; rw [if_neg (by omega)], rfl⟩⟩
      have t9 : S 9 = nI TM.length := by rw [hK.1 9 (by decide)]; exact hT0.1
      rw [f_Mo_search_b77_eq, if_neg (nI_pos (by omega)), mo_g10 ha, Option.bind_some, mo_a10 ha (by omega), Option.bind_some, hat, m1_inc, mo_s10 ha (by omega), Option.bind_some, mo_g10 ha, Option.bind_some, mo_a10 ha (by omega), Option.bind_some, mo_g9 ha, Option.bind_some, upR_s, t9]
      have e1 : upd (R 10) l (nI a) l = nI a := pk_us
      rw [e1, if_pos (by rw [show a = TM.length by omega]), m1_dec]
    | succ d ihd =>
      intro a hd u S R F hK hU h46 hat hF
      obtain ⟨F, rfl⟩ : ∃ F', F = F' + 1 := ⟨F - 1, by omega⟩
      have ta : TM.getD a 0 ∈ TM := mem_getD.mpr ⟨a, by omega, rfl⟩
      have t46 := tm46 _ ta
      have t9 : S 9 = nI TM.length := by rw [hK.1 9 (by decide)]; exact hT0.1
      have r8 : R 8 a = nI (TM.getD a 0) := by rw [hK.2 8 (by decide) (by decide) (by decide)]; exact hT0.2 a (by omega)
      -- the state behind the term's putting
      generalize hR1 : upR (upR R 10 (upd (R 10) l (nI a))) 11 (upd (R 11) l (nI (TM.getD a 0))) = R1
      have k1 : Kp S0 R0 S R1 := by subst hR1; exact ⟨hK.1, fun j h1 h2 h3 => by rw [upR_n h3, upR_n h2]; exact hK.2 j h1 h2 h3⟩
      have U1 : ∀ k, k < l + 1 → R1 11 k = nI (uU u l (TM.getD a 0) k) := fun k hk => by
        subst hR1
        rw [upR_s]
        simp only [upd, uU]
        by_cases q : k = l
        · rw [if_pos q, if_pos q]
        · rw [if_neg q, if_neg q]; exact hU k (by omega)
      have V1 : ∀ k, k < l + 1 → uU u l (TM.getD a 0) k < 46 := fun k hk => by
        simp only [uU]
        by_cases q : k = l
        · rw [if_pos q]; exact t46
        · rw [if_neg q]; exact h46 k (by omega)
      have at1 : R1 10 l = m1 (a + 1) := by subst hR1; rw [upR_n (by decide), upR_s, m1_s]; exact pk_us
      have lo1 : ∀ k, k < l → R1 10 k = R 10 k ∧ R1 11 k = R 11 k := fun k hk => by
        subst hR1
        refine ⟨?_, ?_⟩
        · rw [upR_n (by decide), upR_s]; exact pk_un (by omega)
        · rw [upR_s]; exact pk_un (by omega)
      have mG1 : moG R1 gs := moG_n hR0 (k1.2 1 (by decide) (by decide) (by decide)) (k1.2 2 (by decide) (by decide) (by decide))
      have mN1 : moN S R1 (ndL (gs g)) := ⟨by rw [k1.1 7 (by decide)]; exact hN0.1, by rw [k1.2 6 (by decide) (by decide) (by decide)]; exact hN0.2⟩
      have st : f_Mo_search_b77 G (F + 1) m (nI g) (nI i) (nI w) (nI l) (moH h m A S R) = f_Mo_search_b161 G (f_Mo_search_b77 G F) m (nI g) (nI i) (nI w) (nI l) (bI (gdL (gs g) (gs i) w (uU u l (TM.getD a 0)) l)) (moH h m A S R1) := by
        have s145 : f_Mo_search_b145 G (f_Mo_search_b160 G (f_Mo_search_b161 G (f_Mo_search_b77 G F))) (f_Mo_search_b161 G (f_Mo_search_b77 G F)) m (nI g) (nI i) (nI w) (nI l) (moH h m A S R1) = f_Mo_search_b161 G (f_Mo_search_b77 G F) m (nI g) (nI i) (nI w) (nI l) (bI (arT (gs g) (gs i) (uU u l (TM.getD a 0)) (l + 1))) (moH h m A S R1) := by
          have ar := mo_areThere (G := G) (u := uU u l (TM.getD a 0)) (j := l + 1) (by omega) ha mG1 hg hi mN1 U1 V1 (by omega) oP1 oT
          rw [m1_s] at ar
          rw [f_Mo_search_b145_eq, cI_of (mo_is ha) ar]
          cases arT (gs g) (gs i) (uU u l (TM.getD a 0)) (l + 1)
          · rw [if_pos (show bI false = 0 from rfl), f_Mo_search_b160_eq]; rfl
          · rw [if_neg (show ¬ bI true = 0 by decide)]; rfl
        have e1 : upd (R 10) l (nI a) l = nI a := pk_us
        rw [f_Mo_search_b77_eq, if_neg (nI_pos (by omega)), mo_g10 ha, Option.bind_some, mo_a10 ha (by omega), Option.bind_some, hat, m1_inc, mo_s10 ha (by omega), Option.bind_some, mo_g10 ha, Option.bind_some, mo_a10 ha (by omega), Option.bind_some, mo_g9 ha, Option.bind_some, upR_s, t9, e1, if_neg (fun q => by have := (nI_eq (by omega) (by omega)).mp q; omega), mo_g11 ha, Option.bind_some, mo_g8 ha, Option.bind_some, Option.bind_some, mo_a10 ha (by omega), Option.bind_some, upR_s, e1, mo_a8 ha (by omega), Option.bind_some, upR_n (show 8 ≠ 10 by decide), r8, mo_s11 ha (by omega), Option.bind_some, upR_n (show 11 ≠ 10 by decide), hR1]
        unfold gdL
        by_cases hw0 : w = 0
        · rw [if_pos (by rw [hw0]; rfl), cI_of (mo_is ha) (mo_isNew (u := uU u l (TM.getD a 0)) (by omega) ha (by omega) (fun k hk => U1 k (by omega)) (fun k hk => by have := V1 k (by omega); omega)), decide_eq_false (fun x => x hw0), Bool.false_or]
          cases nwT (uU u l (TM.getD a 0)) l
          · rw [if_pos (show bI false = 0 from rfl), f_Mo_search_b160_eq, Bool.false_and]; rfl
          · rw [if_neg (show ¬ bI true = 0 by decide), s145, Bool.true_and]
        · rw [if_neg (nI_ne0 (by omega) (by omega)), s145, decide_eq_true hw0, Bool.true_or, Bool.true_and]
      -- no row has this term here: go on with the next
      have nxt : ∀ (S' : Nat → Int32) (R' : Nat → Nat → Int32), Kp S0 R0 S' R' → (∀ k, k < l → R' 11 k = nI (u k)) → R' 10 l = m1 (a + 1) → (∀ k, k < l → R' 10 k = R 10 k ∧ R' 11 k = R 11 k) → (∀ τ, Ext (gs g) (gs i) TM w l u τ → TM.getD a 0 ≠ τ l) → f_Mo_search_b77 G (F + 1) m (nI g) (nI i) (nI w) (nI l) (moH h m A S R) = f_Mo_search_b77 G F m (nI g) (nI i) (nI w) (nI l) (moH h m A S' R') →
          (∃ (σ : Nat → Nat) (S2 : Nat → Int32) (R2 : Nat → Nat → Int32), f_Mo_search_b77 G (F + 1) m (nI g) (nI i) (nI w) (nI l) (moH h m A S R) = some (some (.int 1), moH h m A S2 R2) ∧ Kp S0 R0 S2 R2 ∧ (∀ k, k < (ndL (gs g)).length → R2 11 k = nI (σ k)) ∧ Ext (gs g) (gs i) TM w l u σ ∧ ∀ τ, Ext (gs g) (gs i) TM w l u τ → (∃ j, a ≤ j ∧ j < TM.length ∧ TM.getD j 0 = τ l) → lexU (ndL (gs g)).length l σ τ) ∨
          ((∀ τ, Ext (gs g) (gs i) TM w l u τ → ∀ j, a ≤ j → j < TM.length → TM.getD j 0 ≠ τ l) ∧ ∃ (F2 : Nat) (S2 : Nat → Int32) (R2 : Nat → Nat → Int32), F + 1 ≤ F2 + ((d + 1) * (1 + Wc 0) + 1) ∧ f_Mo_search_b77 G (F + 1) m (nI g) (nI i) (nI w) (nI l) (moH h m A S R) = f_Mo_search_b77 G F2 m (nI g) (nI i) (nI w) (m1 l) (moH h m A S2 R2) ∧ Kp S0 R0 S2 R2 ∧ ∀ k, k < l → R2 10 k = R 10 k ∧ R2 11 k = R 11 k) := fun S' R' hK' hU' hat' hlo' hno hst => by
        have W0 : Wc 0 = 0 := rfl
        rw [W0] at hF
        rcases ihd (a + 1) (by omega) u S' R' F hK' hU' h46 hat' (by rw [W0]; omega) with ⟨σ, S2, R2, b1, b2, b3, b4, b5⟩ | ⟨b1, F2, S2, R2, b2, b3, b4, b5⟩
        · refine Or.inl ⟨σ, S2, R2, hst.trans b1, b2, b3, b4, fun τ hτ ⟨j, j1, j2, j3⟩ => b5 τ hτ ⟨j, ?_, j2, j3⟩⟩
          rcases Nat.lt_or_ge a j with q | q
          · exact q
          · have : j = a := by omega
            subst this; exact absurd j3 (hno τ hτ)
        · refine Or.inr ⟨fun τ hτ j j1 j2 j3 => ?_, F2, S2, R2, by rw [W0] at b2 ⊢; omega, hst.trans b3, b4, fun k hk => ⟨((b5 k hk).1).trans (hlo' k hk).1, ((b5 k hk).2).trans (hlo' k hk).2⟩⟩
          rcases Nat.lt_or_ge a j with q | q
          · exact b1 τ hτ j q j2 j3
          · have : j = a := by omega
            subst this; exact hno τ hτ j3
      have agree : ∀ τ, Ext (gs g) (gs i) TM w l u τ → TM.getD a 0 = τ l → ∀ k, k < l + 1 → uU u l (TM.getD a 0) k = τ k := fun τ hτ q k hk => by
        simp only [uU]
        by_cases q2 : k = l
        · rw [if_pos q2, q2]; exact q
        · rw [if_neg q2]; exact (hτ.1 k (by omega)).symm
      have hNl : (ndL (gs g)).length = l + 1 := by omega
      rw [f_Mo_search_b161_eq] at st
      cases hgd : gdL (gs g) (gs i) w (uU u l (TM.getD a 0)) l
      · rw [hgd, if_pos (show bI false = 0 from rfl), f_Mo_search_b193_eq, if_pos (show bI false = 0 from rfl), f_Mo_search_b219_eq] at st
        exact nxt S R1 k1 (fun k hk => by rw [(lo1 k hk).2]; exact hU k hk) at1 lo1 (fun τ hτ q => by
          have h1 := (hτ.2.1 l (Nat.le_refl _) (by omega)).2
          rw [← gdL_c (fun k hk => agree τ hτ q k (by omega)), hgd] at h1
          cases h1) st
      · have i7 : nI l + (1 : Int32) = nI (l + 1) := nI_1 l
        rw [hgd, if_neg (show ¬ bI true = 0 by decide), mo_g7 ha, Option.bind_some, mN1.1, i7, if_pos (nI_le (by omega) (by omega)), f_Mo_search_b193_eq, if_neg (show ¬ bI true = 0 by decide)] at st
        -- the row is found
        have yes : ∀ (S' : Nat → Int32) (R' : Nat → Nat → Int32), Kp S0 R0 S' R' → (∀ k, k < l + 1 → R' 11 k = nI (uU u l (TM.getD a 0) k)) → acW (gs g) w (uU u l (TM.getD a 0)) = true → f_Mo_search_b77 G (F + 1) m (nI g) (nI i) (nI w) (nI l) (moH h m A S R) = f_Mo_search_b217 G (moH h m A S' R') →
            (∃ (σ : Nat → Nat) (S2 : Nat → Int32) (R2 : Nat → Nat → Int32), f_Mo_search_b77 G (F + 1) m (nI g) (nI i) (nI w) (nI l) (moH h m A S R) = some (some (.int 1), moH h m A S2 R2) ∧ Kp S0 R0 S2 R2 ∧ (∀ k, k < (ndL (gs g)).length → R2 11 k = nI (σ k)) ∧ Ext (gs g) (gs i) TM w l u σ ∧ ∀ τ, Ext (gs g) (gs i) TM w l u τ → (∃ j, a ≤ j ∧ j < TM.length ∧ TM.getD j 0 = τ l) → lexU (ndL (gs g)).length l σ τ) := fun S' R' hK' hU' hac hst => by
          refine ⟨uU u l (TM.getD a 0), S', R', by rw [hst, f_Mo_search_b217_eq]; rfl, hK', fun k hk => hU' k (by omega), ⟨fun k hk => if_neg (by omega), fun k h1 h2 => ?_, hac⟩, fun τ hτ ⟨j, j1, j2, j3⟩ k h1 h2 _ => ?_⟩
          · have : k = l := by omega
            subst this
            refine ⟨?_, hgd⟩
            simp only [uU]
            rw [if_pos trivial]; exact ta
          · have : k = l := by omega
            subst this
            simp only [uU]
            rw [if_pos trivial, ← j3]
            rcases Nat.lt_or_ge a j with q | q
            · exact Nat.le_of_lt (tmA a j q j2)
            · rw [show j = a by omega]; exact Nat.le_refl _
        by_cases hw2 : w = 2
        · rw [if_pos (show nI w = (2 : Int32) by rw [hw2]; rfl)] at st
          have hP2 : moP R1 (ndL (gs g)) (ru (gs g) (uU u l (TM.getD a 0))) (ndL (gs g)).length := fun k hk => by
            unfold ru
            rw [cn_at2 hk]
            exact U1 k (by omega)
          have tt : tot (ru (gs g) (uU u l (TM.getD a 0))) (gs g) := fun t h40 ht => V1 _ (by have := (cn_nd oP1 h40 ht).1; omega)
          obtain ⟨S2, f2, b1, b2, b3⟩ := mo_imageSize (G := G) (by omega) ha mG1 hg mN1 hP2 oP1 tt
          have k2 : Kp S0 R0 S2 (upR R1 3 f2) := ⟨fun j hj => by rw [b3 j hj]; exact k1.1 j hj, fun j h1 h2 h3 => by rw [upR_n h1]; exact k1.2 j h1 h2 h3⟩
          have mG2 : moG (upR R1 3 f2) gs := moG_3 mG1
          obtain ⟨p1, p2, p3⟩ := mG2 g hg
          have al := addP_len1 (p := fun _ => true) (r := ren (ru (gs g) (uU u l (TM.getD a 0)))) (gs g) [] asc_nil
          rw [List.length_nil] at al
          rw [cI_of (mo_is ha) b1, mo_g2 ha, Option.bind_some, mo_a2 ha hg, Option.bind_some, p1] at st
          by_cases hac : (gs g).length ≤ (addP (fun _ => true) (ren (ru (gs g) (uU u l (TM.getD a 0)))) [] (gs g)).length
          · rw [if_pos (nI_le hac (by omega)), f_Mo_search_b219_eq] at st
            refine nxt S2 (upR R1 3 f2) k2 (fun k hk => by
              show R1 11 k = _
              rw [(lo1 k hk).2]; exact hU k hk) (by show R1 10 l = _; exact at1) (fun k hk => by
              show R1 10 k = _ ∧ R1 11 k = _
              exact lo1 k hk) (fun τ hτ q => ?_) st
            have h1 := hτ.2.2
            rw [← acW_c oP1 (fun k hk => agree τ hτ q k (by omega))] at h1
            unfold acW at h1
            rw [decide_eq_false (fun x => x hw2), Bool.false_or, decide_eq_true_eq] at h1
            omega
          · rw [if_neg (nI_ge (by omega) (by omega))] at st
            refine Or.inl (yes S2 (upR R1 3 f2) k2 U1 ?_ st)
            unfold acW
            rw [decide_eq_true (show (addP (fun _ => true) (ren (ru (gs g) (uU u l (TM.getD a 0)))) [] (gs g)).length < (gs g).length by omega), Bool.or_true]
        · rw [if_neg (show ¬ nI w = (2 : Int32) from fun q => hw2 ((nI_eq (b := 2) (by omega) (by omega)).mp q))] at st
          exact Or.inl (yes S R1 k1 U1 (by unfold acW; rw [decide_eq_true hw2]; rfl) st)
  | succ e ih =>
    intro l hl d
    induction d with
    | zero =>
      intro a hd u S R F hK hU h46 hat hF
      obtain ⟨F, rfl⟩ : ∃ F', F = F' + 1 := ⟨F - 1, by omega⟩
      refine Or.inr ⟨fun τ _ j h1 h2 => absurd h2 (by omega), F, S, upR R 10 (upd (R 10) l (nI a)), by omega, ?_, ⟨hK.1, fun j h1 h2 h3 => by rw [upR_n h2]; exact hK.2 j h1 h2 h3⟩, fun k hk => ⟨by rw [upR_s]; simp only [upd]; rw [if_neg (by omega)], rfl⟩⟩
      have t9 : S 9 = nI TM.length := by rw [hK.1 9 (by decide)]; exact hT0.1
      rw [f_Mo_search_b77_eq, if_neg (nI_pos (by omega)), mo_g10 ha, Option.bind_some, mo_a10 ha (by omega), Option.bind_some, hat, m1_inc, mo_s10 ha (by omega), Option.bind_some, mo_g10 ha, Option.bind_some, mo_a10 ha (by omega), Option.bind_some, mo_g9 ha, Option.bind_some, upR_s, t9]
      have e1 : upd (R 10) l (nI a) l = nI a := pk_us
      rw [e1, if_pos (by rw [show a = TM.length by omega]), m1_dec]
    | succ d ihd =>
      intro a hd u S R F hK hU h46 hat hF
      obtain ⟨F, rfl⟩ : ∃ F', F = F' + 1 := ⟨F - 1, by omega⟩
      have ta : TM.getD a 0 ∈ TM := mem_getD.mpr ⟨a, by omega, rfl⟩
      have t46 := tm46 _ ta
      have t9 : S 9 = nI TM.length := by rw [hK.1 9 (by decide)]; exact hT0.1
      have r8 : R 8 a = nI (TM.getD a 0) := by rw [hK.2 8 (by decide) (by decide) (by decide)]; exact hT0.2 a (by omega)
      generalize hR1 : upR (upR R 10 (upd (R 10) l (nI a))) 11 (upd (R 11) l (nI (TM.getD a 0))) = R1
      have k1 : Kp S0 R0 S R1 := by subst hR1; exact ⟨hK.1, fun j h1 h2 h3 => by rw [upR_n h3, upR_n h2]; exact hK.2 j h1 h2 h3⟩
      have U1 : ∀ k, k < l + 1 → R1 11 k = nI (uU u l (TM.getD a 0) k) := fun k hk => by
        subst hR1
        rw [upR_s]
        simp only [upd, uU]
        by_cases q : k = l
        · rw [if_pos q, if_pos q]
        · rw [if_neg q, if_neg q]; exact hU k (by omega)
      have V1 : ∀ k, k < l + 1 → uU u l (TM.getD a 0) k < 46 := fun k hk => by
        simp only [uU]
        by_cases q : k = l
        · rw [if_pos q]; exact t46
        · rw [if_neg q]; exact h46 k (by omega)
      have at1 : R1 10 l = m1 (a + 1) := by subst hR1; rw [upR_n (by decide), upR_s, m1_s]; exact pk_us
      have lo1 : ∀ k, k < l → R1 10 k = R 10 k ∧ R1 11 k = R 11 k := fun k hk => by
        subst hR1
        refine ⟨?_, ?_⟩
        · rw [upR_n (by decide), upR_s]; exact pk_un (by omega)
        · rw [upR_s]; exact pk_un (by omega)
      have mG1 : moG R1 gs := moG_n hR0 (k1.2 1 (by decide) (by decide) (by decide)) (k1.2 2 (by decide) (by decide) (by decide))
      have mN1 : moN S R1 (ndL (gs g)) := ⟨by rw [k1.1 7 (by decide)]; exact hN0.1, by rw [k1.2 6 (by decide) (by decide) (by decide)]; exact hN0.2⟩
      have st : f_Mo_search_b77 G (F + 1) m (nI g) (nI i) (nI w) (nI l) (moH h m A S R) = f_Mo_search_b161 G (f_Mo_search_b77 G F) m (nI g) (nI i) (nI w) (nI l) (bI (gdL (gs g) (gs i) w (uU u l (TM.getD a 0)) l)) (moH h m A S R1) := by
        have s145 : f_Mo_search_b145 G (f_Mo_search_b160 G (f_Mo_search_b161 G (f_Mo_search_b77 G F))) (f_Mo_search_b161 G (f_Mo_search_b77 G F)) m (nI g) (nI i) (nI w) (nI l) (moH h m A S R1) = f_Mo_search_b161 G (f_Mo_search_b77 G F) m (nI g) (nI i) (nI w) (nI l) (bI (arT (gs g) (gs i) (uU u l (TM.getD a 0)) (l + 1))) (moH h m A S R1) := by
          have ar := mo_areThere (G := G) (u := uU u l (TM.getD a 0)) (j := l + 1) (by omega) ha mG1 hg hi mN1 U1 V1 (by omega) oP1 oT
          rw [m1_s] at ar
          rw [f_Mo_search_b145_eq, cI_of (mo_is ha) ar]
          cases arT (gs g) (gs i) (uU u l (TM.getD a 0)) (l + 1)
          · rw [if_pos (show bI false = 0 from rfl), f_Mo_search_b160_eq]; rfl
          · rw [if_neg (show ¬ bI true = 0 by decide)]; rfl
        have e1 : upd (R 10) l (nI a) l = nI a := pk_us
        rw [f_Mo_search_b77_eq, if_neg (nI_pos (by omega)), mo_g10 ha, Option.bind_some, mo_a10 ha (by omega), Option.bind_some, hat, m1_inc, mo_s10 ha (by omega), Option.bind_some, mo_g10 ha, Option.bind_some, mo_a10 ha (by omega), Option.bind_some, mo_g9 ha, Option.bind_some, upR_s, t9, e1, if_neg (fun q => by have := (nI_eq (by omega) (by omega)).mp q; omega), mo_g11 ha, Option.bind_some, mo_g8 ha, Option.bind_some, Option.bind_some, mo_a10 ha (by omega), Option.bind_some, upR_s, e1, mo_a8 ha (by omega), Option.bind_some, upR_n (show 8 ≠ 10 by decide), r8, mo_s11 ha (by omega), Option.bind_some, upR_n (show 11 ≠ 10 by decide), hR1]
        unfold gdL
        by_cases hw0 : w = 0
        · rw [if_pos (by rw [hw0]; rfl), cI_of (mo_is ha) (mo_isNew (u := uU u l (TM.getD a 0)) (by omega) ha (by omega) (fun k hk => U1 k (by omega)) (fun k hk => by have := V1 k (by omega); omega)), decide_eq_false (fun x => x hw0), Bool.false_or]
          cases nwT (uU u l (TM.getD a 0)) l
          · rw [if_pos (show bI false = 0 from rfl), f_Mo_search_b160_eq, Bool.false_and]; rfl
          · rw [if_neg (show ¬ bI true = 0 by decide), s145, Bool.true_and]
        · rw [if_neg (nI_ne0 (by omega) (by omega)), s145, decide_eq_true hw0, Bool.true_or, Bool.true_and]
      have hWe : Wc (e + 1) = 46 * (1 + Wc e) + 1 := rfl
      have hcost : TM.length * (1 + Wc e) ≤ 46 * (1 + Wc e) := Nat.mul_le_mul_right _ tml
      have hdm : (d + 1) * (1 + Wc (e + 1)) = d * (1 + Wc (e + 1)) + (1 + Wc (e + 1)) := Nat.succ_mul _ _
      generalize hX : d * (1 + Wc (e + 1)) = X at *
      generalize hY : TM.length * (1 + Wc e) = Y at *
      -- no row has this term here: go on with the next
      have nxt : ∀ (S' : Nat → Int32) (R' : Nat → Nat → Int32) (F' : Nat), F ≤ F' + (Y + 1) → Kp S0 R0 S' R' → (∀ k, k < l → R' 11 k = nI (u k)) → R' 10 l = m1 (a + 1) → (∀ k, k < l → R' 10 k = R 10 k ∧ R' 11 k = R 11 k) → (∀ τ, Ext (gs g) (gs i) TM w l u τ → TM.getD a 0 ≠ τ l) → f_Mo_search_b77 G (F + 1) m (nI g) (nI i) (nI w) (nI l) (moH h m A S R) = f_Mo_search_b77 G F' m (nI g) (nI i) (nI w) (nI l) (moH h m A S' R') →
          (∃ (σ : Nat → Nat) (S2 : Nat → Int32) (R2 : Nat → Nat → Int32), f_Mo_search_b77 G (F + 1) m (nI g) (nI i) (nI w) (nI l) (moH h m A S R) = some (some (.int 1), moH h m A S2 R2) ∧ Kp S0 R0 S2 R2 ∧ (∀ k, k < (ndL (gs g)).length → R2 11 k = nI (σ k)) ∧ Ext (gs g) (gs i) TM w l u σ ∧ ∀ τ, Ext (gs g) (gs i) TM w l u τ → (∃ j, a ≤ j ∧ j < TM.length ∧ TM.getD j 0 = τ l) → lexU (ndL (gs g)).length l σ τ) ∨
          ((∀ τ, Ext (gs g) (gs i) TM w l u τ → ∀ j, a ≤ j → j < TM.length → TM.getD j 0 ≠ τ l) ∧ ∃ (F2 : Nat) (S2 : Nat → Int32) (R2 : Nat → Nat → Int32), F + 1 ≤ F2 + ((d + 1) * (1 + Wc (e + 1)) + 1) ∧ f_Mo_search_b77 G (F + 1) m (nI g) (nI i) (nI w) (nI l) (moH h m A S R) = f_Mo_search_b77 G F2 m (nI g) (nI i) (nI w) (m1 l) (moH h m A S2 R2) ∧ Kp S0 R0 S2 R2 ∧ ∀ k, k < l → R2 10 k = R 10 k ∧ R2 11 k = R 11 k) := fun S' R' F' hF' hK' hU' hat' hlo' hno hst => by
        rcases ihd (a + 1) (by omega) u S' R' F' hK' hU' h46 hat' (by omega) with ⟨σ, S2, R2, b1, b2, b3, b4, b5⟩ | ⟨b1, F2, S2, R2, b2, b3, b4, b5⟩
        · refine Or.inl ⟨σ, S2, R2, hst.trans b1, b2, b3, b4, fun τ hτ ⟨j, j1, j2, j3⟩ => b5 τ hτ ⟨j, ?_, j2, j3⟩⟩
          rcases Nat.lt_or_ge a j with q | q
          · exact q
          · have : j = a := by omega
            subst this; exact absurd j3 (hno τ hτ)
        · refine Or.inr ⟨fun τ hτ j j1 j2 j3 => ?_, F2, S2, R2, by omega, hst.trans b3, b4, fun k hk => ⟨((b5 k hk).1).trans (hlo' k hk).1, ((b5 k hk).2).trans (hlo' k hk).2⟩⟩
          rcases Nat.lt_or_ge a j with q | q
          · exact b1 τ hτ j q j2 j3
          · have : j = a := by omega
            subst this; exact hno τ hτ j3
      have agree : ∀ τ, Ext (gs g) (gs i) TM w l u τ → TM.getD a 0 = τ l → ∀ k, k < l + 1 → uU u l (TM.getD a 0) k = τ k := fun τ hτ q k hk => by
        simp only [uU]
        by_cases q2 : k = l
        · rw [if_pos q2, q2]; exact q
        · rw [if_neg q2]; exact (hτ.1 k (by omega)).symm
      rw [f_Mo_search_b161_eq] at st
      cases hgd : gdL (gs g) (gs i) w (uU u l (TM.getD a 0)) l
      · rw [hgd, if_pos (show bI false = 0 from rfl), f_Mo_search_b193_eq, if_pos (show bI false = 0 from rfl), f_Mo_search_b219_eq] at st
        exact nxt S R1 F (by omega) k1 (fun k hk => by rw [(lo1 k hk).2]; exact hU k hk) at1 lo1 (fun τ hτ q => by
          have h1 := (hτ.2.1 l (Nat.le_refl _) (by omega)).2
          rw [← gdL_c (fun k hk => agree τ hτ q k (by omega)), hgd] at h1
          cases h1) st
      · have i7 : nI l + (1 : Int32) = nI (l + 1) := nI_1 l
        rw [hgd, if_neg (show ¬ bI true = 0 by decide), mo_g7 ha, Option.bind_some, mN1.1, i7, if_neg (nI_ge (by omega) (by omega)), mo_g10 ha, Option.bind_some, mo_s10 ha (by omega), Option.bind_some, f_Mo_search_b219_eq] at st
        -- the next level
        have deep : ∀ τ, Ext (gs g) (gs i) TM w l u τ → TM.getD a 0 = τ l → Ext (gs g) (gs i) TM w (l + 1) (uU u l (TM.getD a 0)) τ := fun τ hτ q => ⟨fun k hk => (agree τ hτ q k hk).symm, fun k h1 h2 => hτ.2.1 k (by omega) h2, hτ.2.2⟩
        rcases ih (l + 1) (by omega) TM.length 0 (by omega) (uU u l (TM.getD a 0)) S (upR R1 10 (upd (R1 10) (l + 1) (-1))) F ⟨k1.1, fun j h1 h2 h3 => by rw [upR_n h2]; exact k1.2 j h1 h2 h3⟩ U1 V1 (by rw [upR_s]; exact pk_us) (by omega) with ⟨σ, S2, R2, b1, b2, b3, b4, b5⟩ | ⟨b1, F2, S2, R2, b2, b3, b4, b5⟩
        · refine Or.inl ⟨σ, S2, R2, st.trans b1, b2, b3, ⟨fun k hk => ?_, fun k h1 h2 => ?_, b4.2.2⟩, fun τ hτ ⟨j, j1, j2, j3⟩ k h1 h2 h3 => ?_⟩
          · rw [b4.1 k (by omega)]
            exact if_neg (by omega)
          · rcases Nat.lt_or_ge l k with q | q
            · exact b4.2.1 k q h2
            · have : k = l := by omega
              subst this
              refine ⟨?_, ?_⟩
              · rw [b4.1 k (by omega)]
                simp only [uU]
                rw [if_pos trivial]; exact ta
              · rw [gdL_c (fun j hj => b4.1 j (by omega)), hgd]
          · have el : σ l = TM.getD a 0 := by
              rw [b4.1 l (by omega)]
              exact if_pos rfl
            rcases Nat.lt_or_ge l k with q | q
            · have q2 : TM.getD a 0 = τ l := by rw [h3 l (Nat.le_refl _) q, el]
              have dp := deep τ hτ q2
              obtain ⟨j5, j6, j7⟩ := mem_getD.mp (dp.2.1 (l + 1) (Nat.le_refl _) (by omega)).1
              exact b5 τ dp ⟨j5, by omega, j6, j7⟩ k q h2 (fun j hj1 hj2 => h3 j (by omega) hj2)
            · have : k = l := by omega
              subst this
              rw [el, ← j3]
              rcases Nat.lt_or_ge a j with q3 | q3
              · exact Nat.le_of_lt (tmA a j q3 j2)
              · rw [show j = a by omega]; exact Nat.le_refl _
        · rw [hY] at b2
          refine nxt S2 R2 F2 b2 b4 (fun k hk => ?_) ?_ (fun k hk => ?_) (fun τ hτ q => ?_) (st.trans b3)
          · rw [(b5 k (by omega)).2]
            show R1 11 k = _
            rw [(lo1 k hk).2]; exact hU k hk
          · rw [(b5 l (by omega)).1, upR_s]
            show upd (R1 10) (l + 1) (-1) l = _
            rw [pk_un (by omega)]; exact at1
          · refine ⟨?_, ?_⟩
            · rw [(b5 k (by omega)).1, upR_s]
              rw [pk_un (by omega)]; exact (lo1 k hk).1
            · rw [(b5 k (by omega)).2]
              show R1 11 k = _
              exact (lo1 k hk).2
          · have dp := deep τ hτ q
            obtain ⟨j5, j6, j7⟩ := mem_getD.mp (dp.2.1 (l + 1) (Nat.le_refl _) (by omega)).1
            exact b1 τ dp j5 (by omega) j6 j7
end MSX
