/-! PURE: the reference's search finds what the class's finds -/
def opW (T : List Nat) (w : Nat) : Int64 := if w = 0 then nds T else tms T
def tmW (T : List Nat) (w : Nat) : List Nat := tmL (if w = 0 then 40 else 0) T
theorem tmW_mem {T : List Nat} {w t : Nat} (hT : okL T) : t ∈ tmW T w ↔ tb (opW T w) t = true := by
  unfold tmW opW
  rw [tmL_mem]
  by_cases hw : w = 0
  · rw [if_pos hw, if_pos hw, tb_nds hT, Bool.and_eq_true, decide_eq_true_eq]
    exact ⟨fun q => ⟨q.1.1, q.2⟩, fun q => ⟨⟨q.1, stb_lt hT q.2⟩, q.2⟩⟩
  · rw [if_neg hw, if_neg hw, tb_tms hT]
    exact ⟨fun q => q.2, fun q => ⟨⟨by omega, stb_lt hT q⟩, q⟩⟩
theorem opW_lt {T : List Nat} {w t : Nat} (hT : okL T) (h : tb (opW T w) t = true) : t < 46 := (tmL_mem.mp ((tmW_mem hT).mpr h)).1.2
/-- does the image have fewer facts -/
def acR (P : List Nat) (w : Nat) (ρ : Nat → Nat) : Prop := w = 2 → (addP (fun _ => true) (ren ρ) [] P).length < P.length
def FS3 (P T : List Nat) (w : Nat) (ρ : Nat → Nat) : Prop := FSg P P T (opW T w) (decide (w = 0)) ρ ∧ acR P w ρ
def LM3 (P T : List Nat) (w : Nat) (ρ : Nat → Nat) : Prop := ∀ σ : Nat → Nat, FS3 P T w σ → ∀ i : Nat, i < 6 → (∀ j : Nat, j < i → stb 2 P (40 + j) = true → σ j = ρ j) → stb 2 P (40 + i) = true → ρ i ≤ σ i
def sg (P : List Nat) (ρ : Nat → Nat) (k : Nat) : Nat := ρ ((ndL P).getD k 0 - 40)
theorem ru_sg {P : List Nat} {ρ : Nat → Nat} {t : Nat} (hP : okL P) (h40 : 40 ≤ t) (ht : stb 2 P t = true) : ru P (sg P ρ) (t - 40) = ρ (t - 40) := by
  unfold ru sg
  rw [(cn_nd hP h40 ht).2]
theorem ren_sg {P : List Nat} {ρ : Nat → Nat} {n : Nat} (hP : okL P) (hn : n ∈ P) : ren (ru P (sg P ρ)) n = ren ρ n := ren_c (fun q => ru_sg hP q (st_s hn)) (fun q => ru_sg hP q (st_o hn))
theorem nd_at {P : List Nat} {k : Nat} (hk : k < (ndL P).length) : (40 ≤ (ndL P).getD k 0 ∧ (ndL P).getD k 0 < 46) ∧ stb 2 P ((ndL P).getD k 0) = true := ndL_mem.mp (mem_getD.mpr ⟨k, hk, rfl⟩)
theorem fs3_ext {P T : List Nat} {w : Nat} {ρ u : Nat → Nat} (hP : okL P) (hT : okL T) (h : FS3 P T w ρ) : Ext P T (tmW T w) w 0 u (sg P ρ) ∧ arT P T u 0 = true := by
  obtain ⟨⟨h1, h2, h3⟩, h4⟩ := h
  refine ⟨⟨fun k hk => absurd hk (by omega), fun k _ hk => ⟨?_, ?_⟩, ?_⟩, ?_⟩
  · have hn := nd_at hk
    refine (tmW_mem hT).mpr (h1 _ (by omega) ?_)
    rw [show 40 + ((ndL P).getD k 0 - 40) = (ndL P).getD k 0 by omega]; exact hn.2
  · unfold gdL
    rw [Bool.and_eq_true]
    refine ⟨?_, ?_⟩
    · by_cases hw : w = 0
      · rw [decide_eq_false (fun x => x hw), Bool.false_or]
        unfold nwT
        rw [List.all_eq_true]
        intro j hj
        have hj := List.mem_range.mp hj
        have a1 := nd_at hk
        have a2 := nd_at (P := P) (k := j) (by omega)
        have lt := ndL_asc (g := P) j k hj hk
        rw [decide_eq_true_eq]
        refine h3 (decide_eq_true hw) _ _ (by omega) (by omega) (by omega) ?_ ?_
        · rw [show 40 + ((ndL P).getD j 0 - 40) = (ndL P).getD j 0 by omega]; exact a2.2
        · rw [show 40 + ((ndL P).getD k 0 - 40) = (ndL P).getD k 0 by omega]; exact a1.2
      · rw [decide_eq_true hw]; rfl
    · unfold arT
      rw [List.all_eq_true]
      intro n hn
      rw [ren_sg hP hn, decide_eq_true (h2 n hn), Bool.or_true]
  · unfold acW
    rw [addP_c P [] (fun n hn => ren_sg hP hn)]
    by_cases hw : w = 2
    · rw [decide_eq_true (h4 hw), Bool.or_true]
    · rw [decide_eq_true hw, Bool.true_or]
  · unfold arT
    rw [List.all_eq_true]
    intro n hn
    by_cases q : lst P n = 0
    · have e : ren (ru P u) n = ren ρ n := by
        rw [← ren_sg (ρ := ρ) hP hn]
        exact ren_lst (Nat.le_of_eq q) (fun k hk => absurd hk (by omega))
      rw [e, decide_eq_true (h2 n hn), Bool.or_true]
    · rw [decide_eq_true q, Bool.true_or]
theorem ext_fs3 {P T : List Nat} {w : Nat} {u v : Nat → Nat} (hP : okL P) (hT : okL T) (h : Ext P T (tmW T w) w 0 u v) (h0 : arT P T u 0 = true) : FS3 P T w (ru P v) := by
  obtain ⟨h1, h2, h3⟩ := h
  refine ⟨⟨fun i hi hs => ?_, fun n hn => ?_, fun hp i j hi hj hne s1 s2 => ?_⟩, fun hw => ?_⟩
  · have c := cn_nd hP (show 40 ≤ 40 + i by omega) hs
    rw [show 40 + i - 40 = i by omega] at c
    exact (tmW_mem hT).mp (h2 _ (Nat.zero_le _) c.1).1
  · by_cases q : lst P n = 0
    · have h4 : arT P T v 0 = true := by rw [arT_c (v := u) (fun k hk => absurd hk (by omega))]; exact h0
      unfold arT at h4
      rw [List.all_eq_true] at h4
      have h5 := h4 n hn
      rw [decide_eq_false (fun x => x q), Bool.false_or, decide_eq_true_eq] at h5
      exact h5
    · have l1 := lst_le hP hn
      have h4 := (h2 (lst P n - 1) (Nat.zero_le _) (by omega)).2
      unfold gdL at h4
      rw [Bool.and_eq_true] at h4
      have h5 := h4.2
      unfold arT at h5
      rw [List.all_eq_true] at h5
      have h6 := h5 n hn
      rw [decide_eq_false (fun x => x (by omega)), Bool.false_or, decide_eq_true_eq] at h6
      exact h6
  · have hw : w = 0 := of_decide_eq_true hp
    have main : ∀ i j : Nat, i < j → j < 6 → stb 2 P (40 + i) = true → stb 2 P (40 + j) = true → ru P v i ≠ ru P v j := fun i j hij hj s1 s2 => by
      have c1 := cn_nd hP (show 40 ≤ 40 + i by omega) s1
      have c2 := cn_nd hP (show 40 ≤ 40 + j by omega) s2
      rw [show 40 + i - 40 = i by omega] at c1
      rw [show 40 + j - 40 = j by omega] at c2
      have lt : cnB P i < cnB P j := by
        rcases Nat.lt_trichotomy (cnB P i) (cnB P j) with q | q | q
        · exact q
        · rw [q] at c1; omega
        · have := ndL_asc (g := P) _ _ q c1.1; omega
      have h4 := (h2 (cnB P j) (Nat.zero_le _) c2.1).2
      unfold gdL at h4
      rw [decide_eq_false (fun x => x hw), Bool.false_or, Bool.and_eq_true] at h4
      have h5 := h4.1
      unfold nwT at h5
      rw [List.all_eq_true] at h5
      exact of_decide_eq_true (h5 (cnB P i) (List.mem_range.mpr lt))
    rcases Nat.lt_trichotomy i j with q | q | q
    · exact main i j q hj s1 s2
    · exact absurd q hne
    · exact fun x => main j i q hi s2 s1 x.symm
  · unfold acW at h3
    rw [decide_eq_false (fun x => x hw), Bool.false_or, decide_eq_true_eq] at h3
    exact h3
theorem add_id {P : List Nat} (hA : Asc P) {r : Nat → Nat} (hr : ∀ n ∈ P, r n = n) : addP (fun _ => true) r [] P = P := asc_ext (addP_asc _ _ asc_nil) hA fun m => by
  rw [addP_mem]
  constructor
  · rintro (h | ⟨n, h1, h2, h3⟩)
    · exact absurd h List.not_mem_nil
    · rw [hr n h1] at h3; exact h3 ▸ h1
  · intro h; exact Or.inr ⟨m, h, rfl, hr m h⟩
theorem wc_b : ∀ e, e < 6 → 46 * (1 + Wc e) + 1 < 2 ^ 40 := by decide
section MSS
variable {G : Nat} {h : pH} {m : Nat} {A : Nat → Nat} {gs : Nat → List Nat} {S : Nat → Int32} {R : Nat → Nat → Int32}
def preW (P T : List Nat) (w : Nat) : Prop := w = 0 → (ndL P).length = (ndL T).length ∧ P.length = T.length
theorem mo_search {g i w : Nat} (hG : 2 ^ 40 ≤ G) (ha : moA h m A) (hR : moG R gs) (hg : g < 6) (hi : i < 6) (hw : w < 3) (aP : Asc (gs g)) (oP1 : okL (gs g)) (oT : okL (gs i)) :
    ∃ (S2 : Nat → Int32) (R2 : Nat → Nat → Int32) (b : Bool), f_Mo_search G m (nI g) (nI i) (nI w) (moH h m A S R) = some (some (.int (bI b)), moH h m A S2 R2) ∧ (∀ j, j ≠ 4 → j ≠ 7 → j ≠ 9 → S2 j = S j) ∧ (∀ j, j ≠ 3 → j ≠ 6 → j ≠ 8 → j ≠ 10 → j ≠ 11 → R2 j = R j) ∧ moN S2 R2 (ndL (gs g)) ∧ (b = false → ¬ preW (gs g) (gs i) w ∨ ∀ ρ, ¬ FS3 (gs g) (gs i) w ρ) ∧ (b = true → preW (gs g) (gs i) w ∧ ∃ ρ, FS3 (gs g) (gs i) w ρ ∧ LM3 (gs g) (gs i) w ρ ∧ moP R2 (ndL (gs g)) ρ (ndL (gs g)).length) := by
  obtain ⟨S1, R1, p1, p2, p3, p4, p5⟩ := mo_prepare (G := G) (w := nI w) (S := S) (by omega) ha hR hg hi oP1.sm oT.sm
  have ew : (if nI w = 0 then 40 else 0) = (if w = 0 then 40 else 0) := by
    by_cases q : w = 0
    · rw [if_pos (by rw [q]; rfl), if_pos q]
    · rw [if_neg (nI_ne0 (by omega) (by omega)), if_neg q]
  rw [ew] at p3
  have p3 : moT S1 R1 (tmW (gs i) w) := p3
  have l6 := ndL_len (g := gs g)
  have mG1 : moG R1 gs := moG_n hR (p5 1 (by decide) (by decide)) (p5 2 (by decide) (by decide))
  obtain ⟨q1, q2, q3⟩ := mG1 g hg
  obtain ⟨r1, r2, r3⟩ := mG1 i hi
  have tl : (tmW (gs i) w).length ≤ 46 := tmL_len
  have ar := mo_areThere (G := G) (u := fun _ => 0) (j := 0) (by omega) ha mG1 hg hi p2 (fun k hk => absurd hk (by omega)) (fun k hk => absurd hk (by omega)) (by omega) oP1 oT
  have ar : f_Mo_areThere G m (nI g) (-1 : Int32) (nI i) (moH h m A S1 R1) = some (some (.int (bI (arT (gs g) (gs i) (fun _ => 0) 0))), moH h m A S1 R1) := ar
  -- behind the first tests
  have main : preW (gs g) (gs i) w → ∃ (S2 : Nat → Int32) (R2 : Nat → Nat → Int32) (b : Bool), f_Mo_search_b37 G (f_Mo_search_b47 G) m (nI g) (nI i) (nI w) (moH h m A S1 R1) = some (some (.int (bI b)), moH h m A S2 R2) ∧ (∀ j, j ≠ 4 → j ≠ 7 → j ≠ 9 → S2 j = S j) ∧ (∀ j, j ≠ 3 → j ≠ 6 → j ≠ 8 → j ≠ 10 → j ≠ 11 → R2 j = R j) ∧ moN S2 R2 (ndL (gs g)) ∧ (b = false → ¬ preW (gs g) (gs i) w ∨ ∀ ρ, ¬ FS3 (gs g) (gs i) w ρ) ∧ (b = true → preW (gs g) (gs i) w ∧ ∃ ρ, FS3 (gs g) (gs i) w ρ ∧ LM3 (gs g) (gs i) w ρ ∧ moP R2 (ndL (gs g)) ρ (ndL (gs g)).length) := fun hpre => by
    have kp1 : (∀ j, j ≠ 4 → j ≠ 7 → j ≠ 9 → S1 j = S j) := fun j _ h2 h3 => p4 j h2 h3
    have kr1 : (∀ j, j ≠ 3 → j ≠ 6 → j ≠ 8 → j ≠ 10 → j ≠ 11 → R1 j = R j) := fun j _ h2 h3 _ _ => p5 j h2 h3
    rw [f_Mo_search_b37_eq, cI_of (mo_is ha) ar]
    cases har : arT (gs g) (gs i) (fun _ => 0) 0
    · rw [if_pos (show bI false = 0 from rfl)]
      exact ⟨S1, R1, false, by rw [f_Mo_search_b47_eq]; rfl, kp1, kr1, p2, fun _ => Or.inr (fun ρ hρ => by
        have := (fs3_ext (u := fun _ => 0) oP1 oT hρ).2
        rw [har] at this; cases this), fun q => (by cases q)⟩
    · rw [if_neg (show ¬ bI true = 0 by decide), mo_g7 ha, Option.bind_some, p2.1]
      by_cases hn0 : (ndL (gs g)).length = 0
      · rw [if_pos (by rw [hn0]; rfl)]
        have nodes : ∀ t, 40 ≤ t → stb 2 (gs g) t = true → False := fun t h40 ht => by have := (cn_nd oP1 h40 ht).1; omega
        have rid : ∀ (ρ : Nat → Nat) (n : Nat), n ∈ gs g → ren ρ n = n := fun ρ n hn => by
          have t1 : tr ρ (n / 4096) = n / 4096 := by
            unfold tr
            split
            · rename_i q; exact (nodes _ q.1 (st_s hn)).elim
            · rfl
          have t2 : tr ρ (n % 64) = n % 64 := by
            unfold tr
            split
            · rename_i q; exact (nodes _ q.1 (st_o hn)).elim
            · rfl
          unfold ren
          rw [t1, t2]
          have := (oP1 n hn).lt
          omega
        by_cases hw2 : w = 2
        · rw [if_pos (show nI w = (2 : Int32) by rw [hw2]; rfl)]
          refine ⟨S1, R1, false, by rw [f_Mo_search_b66_eq]; rfl, kp1, kr1, p2, fun _ => Or.inr (fun ρ hρ => ?_), fun q => (by cases q)⟩
          have h1 := hρ.2 hw2
          rw [add_id aP (rid ρ)] at h1
          omega
        · rw [if_neg (show ¬ nI w = (2 : Int32) from fun q => hw2 ((nI_eq (b := 2) (by omega) (by omega)).mp q))]
          refine ⟨S1, R1, true, by rw [f_Mo_search_b66_eq]; rfl, kp1, kr1, p2, fun q => (by cases q), fun _ => ⟨hpre, fun _ => 0, ⟨⟨fun j hj hs => (nodes _ (by omega) hs).elim, fun n hn => ?_, fun _ a b _ _ _ hs => (nodes _ (by omega) hs).elim⟩, fun q => absurd q hw2⟩, fun σ _ j _ _ hs => (nodes _ (by omega) hs).elim, fun k hk => absurd hk (by omega)⟩⟩
          rw [rid _ n hn]
          unfold arT at har
          rw [List.all_eq_true] at har
          have h5 := har n hn
          have z : lst (gs g) n = 0 := by have := lst_le oP1 hn; omega
          rw [decide_eq_false (fun x => x z), Bool.false_or, decide_eq_true_eq, rid _ n hn] at h5
          exact h5
      · rw [if_neg (nI_ne0 (by omega) (by omega)), mo_g10 ha, Option.bind_some, show (0 : Int32) = nI 0 from rfl, mo_s10 ha (by omega), Option.bind_some]
        obtain ⟨e, he⟩ : ∃ e, (ndL (gs g)).length = e + 1 := ⟨(ndL (gs g)).length - 1, by omega⟩
        have hfuel : (tmW (gs i) w).length * (1 + Wc e) + 1 < G := by
          have b1 := wc_b e (by omega)
          have b2 : (tmW (gs i) w).length * (1 + Wc e) ≤ 46 * (1 + Wc e) := Nat.mul_le_mul_right _ tl
          omega
        have ex := mo_explore (G := G) (w := w) (S0 := S1) (R0 := R1) (by omega) ha hg hi hw mG1 p2 p3 oP1 oT (fl_asc _ _) (fun t ht => (tmL_mem.mp ht).1.2) tl e 0 (by omega) (tmW (gs i) w).length 0 (by omega) (fun _ => 0) S1 (upR R1 10 (upd (R1 10) 0 (-1))) G ⟨fun _ _ => rfl, fun j _ h2 _ => upR_n h2⟩ (fun k hk => absurd hk (by omega)) (fun k hk => absurd hk (by omega)) (by rw [upR_s]; exact pk_us) hfuel
        rcases ex with ⟨σ, S2, R2, b1, b2, b3, b4, b5⟩ | ⟨b1, F2, S2, R2, b2, b3, b4, b5⟩
        · refine ⟨S2, R2, true, b1, fun j h1 h2 h3 => (b2.1 j h1).trans (kp1 j h1 h2 h3), fun j h1 h2 h3 h4 h5 => (b2.2 j h1 h4 h5).trans (kr1 j h1 h2 h3 h4 h5), ⟨by rw [b2.1 7 (by decide)]; exact p2.1, by rw [b2.2 6 (by decide) (by decide) (by decide)]; exact p2.2⟩, fun q => (by cases q), fun _ => ⟨hpre, ru (gs g) σ, ext_fs3 oP1 oT b4 har, fun τ hτ j hj hag hs => ?_, fun k hk => by
            unfold ru
            rw [cn_at2 hk]; exact b3 k hk⟩⟩
          have xt := (fs3_ext (u := fun _ => 0) oP1 oT hτ).1
          obtain ⟨j5, j6, j7⟩ := mem_getD.mp (xt.2.1 0 (Nat.le_refl _) (by omega)).1
          have lx := b5 (sg (gs g) τ) xt ⟨j5, by omega, j6, j7⟩
          have c := cn_nd oP1 (show 40 ≤ 40 + j by omega) hs
          rw [show 40 + j - 40 = j by omega] at c
          have := lx (cnB (gs g) j) (Nat.zero_le _) c.1 (fun k _ hk => by
            have nk := nd_at (P := gs g) (k := k) (by omega)
            have lt := ndL_asc (g := gs g) k (cnB (gs g) j) hk c.1
            have e5 := hag ((ndL (gs g)).getD k 0 - 40) (by omega) (by rw [show 40 + ((ndL (gs g)).getD k 0 - 40) = (ndL (gs g)).getD k 0 by omega]; exact nk.2)
            unfold sg
            rw [e5]
            unfold ru
            rw [cn_at2 (by omega)])
          have e6 : sg (gs g) τ (cnB (gs g) j) = τ j := by
            unfold sg
            rw [c.2, show 40 + j - 40 = j by omega]
          rw [e6] at this
          exact this
        · obtain ⟨F3, hF3⟩ : ∃ F3, F2 = F3 + 1 := ⟨F2 - 1, by omega⟩
          refine ⟨S2, R2, false, ?_, fun j h1 h2 h3 => (b4.1 j h1).trans (kp1 j h1 h2 h3), fun j h1 h2 h3 h4 h5 => (b4.2 j h1 h4 h5).trans (kr1 j h1 h2 h3 h4 h5), ⟨by rw [b4.1 7 (by decide)]; exact p2.1, by rw [b4.2 6 (by decide) (by decide) (by decide)]; exact p2.2⟩, fun _ => Or.inr (fun ρ hρ => ?_), fun q => (by cases q)⟩
          · refine b3.trans ?_
            rw [hF3, f_Mo_search_b77_eq, if_pos (by decide)]; rfl
          · have xt := (fs3_ext (u := fun _ => 0) oP1 oT hρ).1
            obtain ⟨j5, j6, j7⟩ := mem_getD.mp (xt.2.1 0 (Nat.le_refl _) (by omega)).1
            exact b1 _ xt j5 (by omega) j6 j7
  have kp1 : (∀ j, j ≠ 4 → j ≠ 7 → j ≠ 9 → S1 j = S j) := fun j _ h2 h3 => p4 j h2 h3
  have kr1 : (∀ j, j ≠ 3 → j ≠ 6 → j ≠ 8 → j ≠ 10 → j ≠ 11 → R1 j = R j) := fun j _ h2 h3 _ _ => p5 j h2 h3
  have no : ¬ preW (gs g) (gs i) w → ∃ (S2 : Nat → Int32) (R2 : Nat → Nat → Int32) (b : Bool), f_Mo_search_b47 G (moH h m A S1 R1) = some (some (.int (bI b)), moH h m A S2 R2) ∧ (∀ j, j ≠ 4 → j ≠ 7 → j ≠ 9 → S2 j = S j) ∧ (∀ j, j ≠ 3 → j ≠ 6 → j ≠ 8 → j ≠ 10 → j ≠ 11 → R2 j = R j) ∧ moN S2 R2 (ndL (gs g)) ∧ (b = false → ¬ preW (gs g) (gs i) w ∨ ∀ ρ, ¬ FS3 (gs g) (gs i) w ρ) ∧ (b = true → preW (gs g) (gs i) w ∧ ∃ ρ, FS3 (gs g) (gs i) w ρ ∧ LM3 (gs g) (gs i) w ρ ∧ moP R2 (ndL (gs g)) ρ (ndL (gs g)).length) := fun hn => ⟨S1, R1, false, by rw [f_Mo_search_b47_eq]; rfl, kp1, kr1, p2, fun _ => Or.inl hn, fun q => (by cases q)⟩
  rw [f_Mo_search_eq, cV_of (mo_is ha) p1]
  by_cases hw0 : w = 0
  · have et : (tmW (gs i) w).length = (ndL (gs i)).length := by subst hw0; rfl
    rw [if_pos (show nI w = 0 by rw [hw0]; rfl), mo_g7 ha, Option.bind_some, mo_g9 ha, Option.bind_some, p2.1, p3.1, et]
    have l7 := ndL_len (g := gs i)
    by_cases hN : (ndL (gs g)).length = (ndL (gs i)).length
    · rw [if_pos (by rw [hN]), mo_g2 ha, Option.bind_some, mo_a2 ha hg, Option.bind_some, Option.bind_some, mo_a2 ha hi, Option.bind_some, q1, r1]
      by_cases hL : (gs g).length = (gs i).length
      · rw [if_pos (by rw [hL])]
        exact main (fun _ => ⟨hN, hL⟩)
      · rw [if_neg (fun q => hL ((nI_eq (by omega) (by omega)).mp q))]
        exact no (fun q => hL (q hw0).2)
    · rw [if_neg (fun q => hN ((nI_eq (by omega) (by omega)).mp q))]
      exact no (fun q => hN (q hw0).1)
  · rw [if_neg (nI_ne0 (by omega) (by omega))]
    exact main (fun q => absurd q hw0)
end MSS
