/-! PURE: core -/
def imG (P : List Nat) (ρ : Nat → Nat) : List Nat := addP (fun _ => true) (ren ρ) [] P
def NoShr (P : List Nat) : Prop := ∀ ρ, ¬ FS3 P P 2 ρ
def Shr (P P2 : List Nat) : Prop := ∃ ρ, FS3 P P 2 ρ ∧ LM3 P P 2 ρ ∧ P2 = imG P ρ
/-- n steps lead from P to Q, and none leads on -/
def Chn : Nat → List Nat → List Nat → Prop
  | 0, P, Q => Q = P ∧ NoShr P
  | n + 1, P, Q => ∃ P2, Shr P P2 ∧ Chn n P2 Q
theorem fs3_tot {P : List Nat} {ρ : Nat → Nat} (hP : okL P) (h : FS3 P P 2 ρ) : tot ρ P := fun t h40 ht => by
  have h46 := stb_lt hP ht
  have h1 : tb (tms P) (ρ (t - 40)) = true := h.1.1 (t - 40) (by omega) (by rw [show 40 + (t - 40) = t by omega]; exact ht)
  rw [tb_tms hP] at h1
  exact stb_lt hP h1
theorem imG_c {P : List Nat} {ρ σ : Nat → Nat} (hP : okL P) (h : ∀ i, i < 6 → stb 2 P (40 + i) = true → ρ i = σ i) : imG P ρ = imG P σ := by
  unfold imG
  refine addP_c P [] (fun n hn => ren_c (fun q => ?_) (fun q => ?_))
  · have := stb_lt hP (st_s hn)
    exact h _ (by omega) (by rw [show 40 + (n / 4096 - 40) = n / 4096 by omega]; exact st_s hn)
  · have := stb_lt hP (st_o hn)
    exact h _ (by omega) (by rw [show 40 + (n % 64 - 40) = n % 64 by omega]; exact st_o hn)
theorem Shr.un {P A C : List Nat} (hP : okL P) (h1 : Shr P A) (h2 : Shr P C) : A = C := by
  obtain ⟨ρ, a1, a2, rfl⟩ := h1
  obtain ⟨σ, b1, b2, rfl⟩ := h2
  exact imG_c hP (fun i hi hs => LM3.un a1 a2 b1 b2 6 i hi hi hs)
theorem imG_ok {P : List Nat} {ρ : Nat → Nat} (hP : okL P) (h : FS3 P P 2 ρ) : Asc (imG P ρ) ∧ okL (imG P ρ) ∧ (imG P ρ).length ≤ P.length := by
  refine ⟨addP_asc _ _ asc_nil, addP_ok ok_nil (fun n hn _ => ren_ok hP (fs3_tot hP h) hn), ?_⟩
  have := addP_len1 (p := fun _ => true) (r := ren ρ) P [] asc_nil
  rw [List.length_nil] at this
  unfold imG
  omega
theorem imG_nd {P : List Nat} {ρ : Nat → Nat} (hA : Asc P) (hP : okL P) (h : FS3 P P 2 ρ) : (ndL (imG P ρ)).length < (ndL P).length := by
  obtain ⟨x, hx, hg⟩ := (fs3_2 hA hP).mp h
  have x46 := (ndL_mem.mp hx).1.2
  have tt := fs3_tot hP h
  have sub : ∀ t ∈ ndL (imG P ρ), t ∈ gDel x (ndL P) := fun t ht => by
    obtain ⟨⟨t40, t46⟩, ts⟩ := ndL_mem.mp ht
    obtain ⟨m, m1, m2⟩ := stb2.mp ts
    rcases (addP_mem _ _).mp m1 with q | ⟨n, n1, _, n3⟩
    · exact absurd q List.not_mem_nil
    · obtain ⟨a1, a2, a3⟩ := ren_p (ρ := ρ) (n := n) (by have := tt.b hP (st_o n1); omega)
      rw [n3] at a1 a3
      have one : ∀ s, stb 2 P s = true → tr ρ s = t → t ∈ gDel x (ndL P) := fun s hs e => by
        have s46 := stb_lt hP hs
        unfold tr at e
        by_cases q1 : 40 ≤ s
        · rw [if_pos ⟨q1, s46⟩] at e
          have h1 := (tb_opX hP x46).mp (hg.1 (s - 40) (by omega) (by rw [show 40 + (s - 40) = s by omega]; exact hs))
          rw [e] at h1
          exact gDel_mem.mpr ⟨ndL_mem.mpr ⟨⟨t40, t46⟩, h1.1⟩, h1.2⟩
        · rw [if_neg (fun y => q1 y.1)] at e; omega
      rcases m2 with q | q
      · exact one _ (st_s n1) (a1.symm.trans q)
      · exact one _ (st_o n1) (a3.symm.trans q)
  have h1 := asc_sub ndL_asc (gDel_asc ndL_asc) sub
  have h2 := gDel_len (n := x) (g := ndL P)
  rcases Nat.lt_or_ge (gDel x (ndL P)).length (ndL P).length with q | q
  · omega
  · have := asc_same (gDel_asc (n := x) ndL_asc) ndL_asc (fun m hm => (gDel_mem.mp hm).1) q
    rw [← this] at hx
    exact absurd rfl (gDel_mem.mp hx).2
theorem noShr_0 {P : List Nat} (hA : Asc P) (hP : okL P) (h : (ndL P).length = 0) : NoShr P := fun ρ hρ => by
  obtain ⟨x, hx, _⟩ := (fs3_2 hA hP).mp hρ
  obtain ⟨k, k1, _⟩ := mem_getD.mp hx
  omega
theorem Chn.un : ∀ (n m : Nat) (P Q R : List Nat), okL P → Chn n P Q → Chn m P R → n = m ∧ Q = R := by
  intro n
  induction n with
  | zero =>
    intro m P Q R hP h1 h2
    cases m with
    | zero => exact ⟨rfl, h1.1.trans h2.1.symm⟩
    | succ m =>
      obtain ⟨P2, ⟨ρ, r1, _⟩, _⟩ := h2
      exact absurd r1 (h1.2 ρ)
  | succ n ih =>
    intro m P Q R hP h1 h2
    cases m with
    | zero =>
      obtain ⟨P2, ⟨ρ, r1, _⟩, _⟩ := h1
      exact absurd r1 (h2.2 ρ)
    | succ m =>
      obtain ⟨P2, s1, c1⟩ := h1
      obtain ⟨P3, s2, c2⟩ := h2
      have e := Shr.un hP s1 s2
      subst e
      obtain ⟨ρ, r1, r2, r3⟩ := s1
      obtain ⟨e1, e2⟩ := ih m P2 Q R (by rw [r3]; exact (imG_ok hP r1).2.1) c1 c2
      exact ⟨by omega, e2⟩
theorem Chn.ok : ∀ (n : Nat) (P Q : List Nat), Asc P → okL P → Chn n P Q → Asc Q ∧ okL Q := by
  intro n
  induction n with
  | zero => intro P Q hA hP h; rw [h.1]; exact ⟨hA, hP⟩
  | succ n ih =>
    intro P Q hA hP h
    obtain ⟨P2, ⟨ρ, r1, r2, r3⟩, c⟩ := h
    have := imG_ok hP r1
    exact ih P2 Q (by rw [r3]; exact this.1) (by rw [r3]; exact this.2.1) c
theorem upG3 {gs : Nat → List Nat} {p : Nat} (hp : p < 6) {a b c X Y Q : List Nat} : upG (upG (upG (upG (upG (upG gs 9 a) 6 b) p c) 9 X) 6 Y) p Q = upG (upG (upG gs 9 X) 6 Y) p Q := funext fun i => by
  unfold upG
  by_cases q1 : i = p
  · simp only [if_pos q1]
  · by_cases q2 : i = 6
    · simp only [if_neg q1, if_pos q2]
    · by_cases q3 : i = 9
      · simp only [if_neg q1, if_neg q2, if_pos q3]
      · simp only [if_neg q1, if_neg q2, if_neg q3]
theorem rowX_on {f : Nat → Int32} {ρ : Nat → Nat} {P : List Nat} (hP : okL P) (h : rowX f ρ P) : rowOn f ρ P := fun t h40 ht => by
  have h46 := stb_lt hP ht
  rw [h (t - 40) (by omega), show 40 + (t - 40) = t by omega, if_pos ht]
section COC
variable {G : Nat} {B : Nat → Nat} {cc : Int32} {cl bst : Nat → Int32}
theorem mg_core_lp {p : Nat} (hG : 1000 ≤ G) (hp : p < 6) :
    ∀ (d F k : Nat) (h : pH) (gs : Nat → List Nat), d < F → k + d = 6 → (ndL (gs p)).length ≤ d → RC h B gs cc cl bst → Asc (gs p) → okL (gs p) →
      ∃ (h2 : pH) (n : Nat) (Q X Y : List Nat), f_Mg_core_b8 G F (B 43) (B p) (nI k) h = some (.inr (some (.int (nI (k + n)))), h2) ∧ Ch h h2 (inB B) ∧ RC h2 B (upG (upG (upG gs 9 X) 6 Y) p Q) cc cl bst ∧ Chn n (gs p) Q := by
  intro d
  induction d with
  | zero =>
    intro F k h gs hF hk hn hr hA hP
    obtain ⟨F, rfl⟩ : ∃ F', F = F' + 1 := ⟨F - 1, by omega⟩
    have : k = 6 := by omega
    subst this
    refine ⟨h, 0, gs p, gs 9, gs 6, by rw [f_Mg_core_b8_eq, if_pos (by decide), f_Mg_core_b57_eq], Ch.rf, ?_, rfl, noShr_0 hA hP (by omega)⟩
    rw [upG_id, upG_id, upG_id]; exact hr
  | succ d ih =>
    intro F k h gs hF hk hn hr hA hP
    obtain ⟨F, rfl⟩ : ∃ F', F = F' + 1 := ⟨F - 1, by omega⟩
    obtain ⟨h2, g2, b, X2, b1, b2, b3, b4, b5, b6⟩ := mg_findShrink (G := G) false hG hr hp hA hP
    have b1 : f_Mg_findShrinkingRow G (B 43) (B p) (0 : Int32) h = some (some (.int (bI b)), h2) := b1
    have st : f_Mg_core_b8 G (F + 1) (B 43) (B p) (nI k) h = if bI b = 0 then f_Mg_core_b57 G (nI k) h2 else ((gR h2 (B 43) 3 1).bind fun v37 => cV (oC h2 v37 0) (f_Gr_clear G v37 h2) fun h38 => (gR h38 (B 43) 3 1).bind fun v41 => (gR h38 (B 43) 3 6).bind fun v42 => cI (oC h38 v41 0) (f_Gr_insertRenamed G v41 (B p) v42 h38) fun v46 h43 => (gR h43 (B 43) 3 1).bind fun v47 => cV (oC h43 (B p) 0) (f_Gr_become G (B p) v47 h43) fun h48 => (f_Mg_core_b8 G F) (B 43) (B p) (nI k + 1) h48) := by
      rw [f_Mg_core_b8_eq, if_neg (show ¬ (6 : Int32) ≤ nI k from nI_ge (b := 6) (by omega) (by omega)), cI_of hr.is b1]
    cases b
    · refine ⟨h2, 0, (upG gs 9 X2) p, X2, (upG gs 9 X2) 6, by rw [st, if_pos (show bI false = 0 from rfl), f_Mg_core_b57_eq]; rfl, b2, by rw [upG_id, upG_id]; exact b3, upG_n (by omega), fun ρ hρ => ?_⟩
      rcases b5.1 rfl with q | q
      · exact q (fun q2 => absurd q2 (by decide))
      · exact q ρ hρ
    · obtain ⟨ρ, r1, r2, r3⟩ := b6 rfl rfl
      have io := imG_ok hP r1
      have l30 := (hr.2.1 p (by omega)).2.2.2.2.1
      obtain ⟨h3, c1, c2, c3⟩ := gr_clear (G := G) (b3.2.1 6 (by omega))
      have r3' := b3.set (by omega) c2 c3
      have gp3 := r3'.2.1 p (by omega)
      rw [upG_n (by omega), upG_n (by omega)] at gp3
      have x24 : h3.2 (B 24) = .inl (0, 6, .inl g2) := by
        rw [c2.2 (B 24) (b3.1.nc (by omega) (by omega) (by omega) (by omega))]; exact b4
      obtain ⟨h4, g4, e1, e2, e3, e4⟩ := gr_insRen (G := G) (ρ := ρ) (by omega) c3 asc_nil sm_nil gp3 hP x24 (r3'.1.1 24 (by omega)) (fs3_tot hP r1) (rowX_on hP r3) (r3'.1.nc (by omega) (by omega) (by omega) (by omega)) (r3'.1.nc (by omega) (by omega) (by omega) (by omega)) (r3'.1.nc (by omega) (by omega) (by omega) (by omega))
      have e5 := e4 (by have := io.2.2; unfold imG at this; omega)
      have e5 : g4 = imG (gs p) ρ := e5
      subst e5
      have r4 := r3'.set (by omega) e2 e3
      rw [upG_u] at r4
      have g6 := r4.2.1 6 (by omega)
      rw [upG_s] at g6
      obtain ⟨h5, k1, k2, k3⟩ := gr_become (G := G) (by omega) (r4.2.1 p (by omega)) g6 (r4.1.ne (by omega) (by omega) (by omega)) (r4.1.ne (by omega) (by omega) (by omega)) (r4.1.ne (by omega) (by omega) (by omega)) (r4.1.ne (by omega) (by omega) (by omega))
      have r5 := r4.set (by omega) k2 k3
      have nd := imG_nd hA hP r1
      have ep : upG (upG (upG gs 9 X2) 6 (imG (gs p) ρ)) p (imG (gs p) ρ) p = imG (gs p) ρ := upG_s
      obtain ⟨h6, n, Q, X, Y, f1, f2, f3, f4⟩ := ih F (k + 1) h5 _ (by omega) (by omega) (by rw [ep]; omega) r5 (by rw [ep]; exact io.1) (by rw [ep]; exact io.2.1)
      rw [ep] at f4
      rw [upG3 hp] at f3
      refine ⟨h6, n + 1, Q, X, Y, ?_, (((b2.tr (c2.mono (inB_g (by omega)))).tr (e2.mono (inB_c (by omega)))).tr (k2.mono (inB_g (by omega)))).tr f2, f3, _, ⟨ρ, r1, r2, rfl⟩, f4⟩
      rw [st, if_neg (show ¬ bI true = 0 by decide), b3.f (v := B 6) rfl, Option.bind_some, cV_of (b3.2.1 6 (by omega)).is c1, r3'.f (v := B 6) rfl, Option.bind_some, r3'.f (v := B 24) rfl, Option.bind_some, cI_of c3.is e1, r4.f (v := B 6) rfl, Option.bind_some, cV_of (r4.2.1 p (by omega)).is k1, nI_1, f1, show k + 1 + n = k + (n + 1) by omega]
variable {h : pH} {gs : Nat → List Nat}
theorem mg_core_no {x1 : Int32} (hr : RC h B gs cc cl bst) (hg : ¬ okG x1) : f_Mg_core G (B 43) x1 h = some (.inl 1, h) := by
  rw [f_Mg_core_eq, tR_th hr.is (mg_graphAt_no hg)]
theorem mg_core {p : Nat} (hG : 1000 ≤ G) (hr : RC h B gs cc cl bst) (hp : p < 6) (hA : Asc (gs p)) (hP : okL (gs p)) :
    ∃ (h2 : pH) (n : Nat) (Q X Y : List Nat), f_Mg_core G (B 43) (nI p) h = some (.inr (some (.int (nI n))), h2) ∧ Ch h h2 (inB B) ∧ RC h2 B (upG (upG (upG gs 9 X) 6 Y) p Q) cc cl bst ∧ Chn n (gs p) Q := by
  obtain ⟨h2, n, Q, X, Y, a1, a2, a3, a4⟩ := mg_core_lp (G := G) hG hp 6 G 0 h gs (by omega) (by omega) ndL_len hr hA hP
  refine ⟨h2, n, Q, X, Y, ?_, a2, a3, a4⟩
  rw [Nat.zero_add] at a1
  rw [f_Mg_core_eq, tR_of hr.is (mg_graphAt hr hp)]
  exact a1
end COC
section COR
variable {G : Nat} {h : pH} {m : Nat} {A : Nat → Nat}
theorem mo_core_lp {p : Nat} (hG : 2 ^ 40 ≤ G) (ha : moA h m A) (hp : p < 6) :
    ∀ (d F k : Nat) (S : Nat → Int32) (R : Nat → Nat → Int32) (gs : Nat → List Nat), d + 1 < F → (ndL (gs p)).length ≤ d → moG R gs → Asc (gs p) → okL (gs p) →
      ∃ (S2 : Nat → Int32) (R2 : Nat → Nat → Int32) (n : Nat) (Q : List Nat), f_Mo_core_b11 G F m (nI p) (nI k) 1 (moH h m A S R) = some (some (.int (nI (k + n))), moH h m A S2 R2) ∧ moG R2 (upG gs p Q) ∧ Chn n (gs p) Q ∧ (∀ j, j ≠ 4 → j ≠ 7 → j ≠ 9 → S2 j = S j) ∧ ∀ j, j ≠ 1 → j ≠ 2 → j ≠ 3 → j ≠ 6 → j ≠ 8 → j ≠ 10 → j ≠ 11 → R2 j = R j := by
  intro d
  induction d with
  | zero =>
    intro F k S R gs hF hn hR hA hP
    obtain ⟨F, rfl⟩ : ∃ F', F = F' + 1 + 1 := ⟨F - 2, by omega⟩
    obtain ⟨S2, R2, b, a1, a2, a3, a4, a5, a6⟩ := mo_search (G := G) (w := 2) (S := S) hG ha hR hp hp (by omega) hA hP hP
    have a1 : f_Mo_search G m (nI p) (nI p) (2 : Int32) (moH h m A S R) = some (some (.int (bI b)), moH h m A S2 R2) := a1
    have ns := noShr_0 hA hP (show (ndL (gs p)).length = 0 by omega)
    cases b
    · refine ⟨S2, R2, 0, gs p, ?_, by rw [upG_id]; exact moG_n hR (a3 1 (by decide) (by decide) (by decide) (by decide) (by decide)) (a3 2 (by decide) (by decide) (by decide) (by decide) (by decide)), ⟨rfl, ns⟩, a2, fun j _ _ h3 h4 h5 h6 h7 => a3 j h3 h4 h5 h6 h7⟩
      rw [f_Mo_core_b11_eq, if_neg (by decide), cI_of (mo_is ha) a1, if_pos (show bI false = 0 from rfl), f_Mo_core_b11_eq, if_pos (show bI false = 0 from rfl)]; rfl
    · obtain ⟨_, ρ, r1, _⟩ := a6 rfl
      exact absurd r1 (ns ρ)
  | succ d ih =>
    intro F k S R gs hF hn hR hA hP
    obtain ⟨F, rfl⟩ : ∃ F', F = F' + 1 + 1 := ⟨F - 2, by omega⟩
    obtain ⟨S2, R2, b, a1, a2, a3, a4, a5, a6⟩ := mo_search (G := G) (w := 2) (S := S) hG ha hR hp hp (by omega) hA hP hP
    have a1 : f_Mo_search G m (nI p) (nI p) (2 : Int32) (moH h m A S R) = some (some (.int (bI b)), moH h m A S2 R2) := a1
    have mG2 : moG R2 gs := moG_n hR (a3 1 (by decide) (by decide) (by decide) (by decide) (by decide)) (a3 2 (by decide) (by decide) (by decide) (by decide) (by decide))
    cases b
    · refine ⟨S2, R2, 0, gs p, ?_, by rw [upG_id]; exact mG2, ⟨rfl, fun ρ hρ => ?_⟩, a2, fun j _ _ h3 h4 h5 h6 h7 => a3 j h3 h4 h5 h6 h7⟩
      · rw [f_Mo_core_b11_eq, if_neg (by decide), cI_of (mo_is ha) a1, if_pos (show bI false = 0 from rfl), f_Mo_core_b11_eq, if_pos (show bI false = 0 from rfl)]; rfl
      · rcases a5 rfl with q | q
        · exact q (fun q2 => absurd q2 (by decide))
        · exact q ρ hρ
    · obtain ⟨_, ρ, r1, r2, r3⟩ := a6 rfl
      have io := imG_ok hP r1
      have l30 := (hR p hp).2.1
      obtain ⟨S3, f3, b1, b2, b3⟩ := mo_imageSize (G := G) (ρ := ρ) (by omega) ha mG2 hp a4 r3 hP (fs3_tot hP r1)
      obtain ⟨f4, f5, c1, c2⟩ := mo_keep (G := G) (g := p) (by omega) ha b2 (moG_3 mG2) (by have := io.2.2; unfold imG at this; omega) hp
      have nd := imG_nd hA hP r1
      have c2 : moG (upR (upR (upR R2 3 f3) 1 f4) 2 f5) (upG gs p (imG (gs p) ρ)) := c2
      have ep : upG gs p (imG (gs p) ρ) p = imG (gs p) ρ := upG_s
      obtain ⟨S4, R4, n, Q, d1, d2, d3, d4, d5⟩ := ih (F + 1) (k + 1) S3 _ _ (by omega) (by rw [ep]; omega) c2 (by rw [ep]; exact io.1) (by rw [ep]; exact io.2.1)
      rw [ep] at d3
      rw [upG_u] at d2
      refine ⟨S4, R4, n + 1, Q, ?_, d2, ⟨_, ⟨ρ, r1, r2, rfl⟩, d3⟩, fun j h1 h2 h3 => by rw [d4 j h1 h2 h3, b3 j h1, a2 j h1 h2 h3], fun j h1 h2 h3 h4 h5 h6 h7 => by rw [d5 j h1 h2 h3 h4 h5 h6 h7, upR_n h2, upR_n h1, upR_n h3, a3 j h3 h4 h5 h6 h7]⟩
      rw [f_Mo_core_b11_eq, if_neg (by decide), cI_of (mo_is ha) a1, if_neg (show ¬ bI true = 0 by decide), cI_of (mo_is ha) b1, cV_of (mo_is ha) c1, nI_1]
      refine Eq.trans d1 ?_
      rw [show k + 1 + n = k + (n + 1) by omega]
variable {gs : Nat → List Nat} {S : Nat → Int32} {R : Nat → Nat → Int32}
theorem mo_core_no {x1 : Int32} (hG : 10 ≤ G) (ha : moA h m A) (hg : ¬ okG x1) : f_Mo_core G m x1 (moH h m A S R) = some (some (.int 0), moH h m A (upd S 0 1) R) := by
  obtain ⟨F, hF⟩ : ∃ F', G = F' + 1 := ⟨G - 1, by omega⟩
  have e : f_Mo_core_b11 G G m x1 (0 : Int32) 0 (moH h m A (upd S 0 1) R) = f_Mo_core_b11 G (F + 1) m x1 (0 : Int32) 0 (moH h m A (upd S 0 1) R) := by rw [← hF]
  rw [f_Mo_core_eq, cI_of rfl mo_isGraph, if_neg (show ¬ (0 ≤ x1.toInt ∧ x1.toInt < 6) from hg), cI_of (mo_is ha) (mo_there0 ha), e, f_Mo_core_b11_eq, if_pos rfl]
theorem mo_core {p : Nat} (hG : 2 ^ 40 ≤ G) (ha : moA h m A) (hR : moG R gs) (hp : p < 6) (hA : Asc (gs p)) (hP : okL (gs p)) :
    ∃ (S2 : Nat → Int32) (R2 : Nat → Nat → Int32) (n : Nat) (Q : List Nat), f_Mo_core G m (nI p) (moH h m A S R) = some (some (.int (nI n)), moH h m A S2 R2) ∧ moG R2 (upG gs p Q) ∧ Chn n (gs p) Q ∧ S2 0 = 0 ∧ (∀ j, j ≠ 0 → j ≠ 4 → j ≠ 7 → j ≠ 9 → S2 j = S j) ∧ ∀ j, j ≠ 1 → j ≠ 2 → j ≠ 3 → j ≠ 6 → j ≠ 8 → j ≠ 10 → j ≠ 11 → R2 j = R j := by
  obtain ⟨S2, R2, n, Q, a1, a2, a3, a4, a5⟩ := mo_core_lp (G := G) hG ha hp 6 G 0 (upd S 0 0) R gs (by omega) ndL_len hR hA hP
  refine ⟨S2, R2, n, Q, ?_, a2, a3, by rw [a4 0 (by decide) (by decide) (by decide)]; simp [upd], fun j h0 h1 h2 h3 => by rw [a4 j h1 h2 h3]; simp [upd, h0], a5⟩
  rw [Nat.zero_add] at a1
  rw [f_Mo_core_eq, cI_of rfl mo_isGraph, if_pos (okG_of hp), cI_of (mo_is ha) (mo_there1 ha)]
  exact a1
end COR
