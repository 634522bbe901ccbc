/-! PURE: the eighteen calls, on both sides -/
theorem upG_all {gs : Nat → List Nat} {g : Nat} {l : List Nat} (h : ∀ i : Nat, i < 6 → Asc (gs i) ∧ okL (gs i)) (hl : Asc l ∧ okL l) : ∀ i : Nat, i < 6 → Asc (upG gs g l i) ∧ okL (upG gs g l i) := fun i hi => by
  unfold upG
  split
  · exact hl
  · exact h i hi
theorem okN_of {s v o : Nat} (h1 : s < 46) (h2 : v < 40) (h3 : o < 46) : okN (4096 * s + 64 * v + o) := ⟨by omega, by omega, by omega⟩
theorem gIns_ok {n : Nat} {g : List Nat} (hg : okL g) (hn : okN n) : okL (gIns n g) := fun m hm => by
  rcases gIns_mem.mp hm with q | q
  · exact hg m q
  · rw [q]; exact hn
theorem putG_ok {g : List Nat} {n : Nat} (h : Asc g ∧ okL g) (hn : okN n) : Asc (putG g n) ∧ okL (putG g n) := by
  unfold putG
  split
  · exact h
  · split
    · exact h
    · exact ⟨gIns_asc h.1, gIns_ok h.2 hn⟩
theorem gDel_ok {n : Nat} {g : List Nat} (h : Asc g ∧ okL g) : Asc (gDel n g) ∧ okL (gDel n g) := ⟨gDel_asc h.1, fun m hm => h.2 m (gDel_mem.mp hm).1⟩
theorem apG_ok {g lv cm : List Nat} (h : Asc g ∧ okL g) (hc : okL cm) : Asc (apG g lv cm) ∧ okL (apG g lv cm) := ⟨addP_asc _ _ (dif_asc h.1), addP_ok (dif_ok h.2) (fun n hn _ => hc n hn)⟩
theorem wr_1 {g s v o : Int32} (h : ¬ okG g) : wr g s v o = nI 1 := by unfold wr; rw [if_neg h]; rfl
theorem wr_2 {g s v o : Int32} (h : okG g) (h2 : ¬ okF s v o) : wr g s v o = nI 2 := by unfold wr; rw [if_pos h, if_neg h2]; rfl
section OPS
variable {G : Nat} {B A : Nat → Nat} {m : Nat} {H : pH} {S : Nat → Int32} {R : Nat → Nat → Int32} {gs : Nat → List Nat} {cc : Int32} {cl bst : Nat → Int32} {CL : List Nat} {x1 x2 x3 x4 : Int32}
theorem op_put (hG : 2 ^ 40 ≤ G) (hr : RC H B gs cc cl bst) (iv : IV S R gs cc cl bst CL) : OPOK B A m true (fun h => f_Mg_put G (B 43) x1 x2 x3 x4 h) (fun h => f_Mo_put G m x1 x2 x3 x4 h) S R H := by
  by_cases h1 : okG x1
  · by_cases h2 : okF x2 x3 x4
    · obtain ⟨g, hg, rfl⟩ := okG_nI h1
      obtain ⟨s, hs, rfl⟩ := ok_nI (n := 46) h2.1.1 h2.1.2
      obtain ⟨v, hv, rfl⟩ := ok_nI (n := 40) h2.2.1.1 h2.2.1.2
      obtain ⟨o, ho, rfl⟩ := ok_nI (n := 46) h2.2.2.1 h2.2.2.2
      have io := iv.2.1 g hg
      obtain ⟨h3, a1, a2, a3⟩ := mg_put (G := G) (by omega) hr hg io.1 io.2.sm hs hv ho
      refine Or.inr ⟨_, h3, _, cc, cl, bst, CL, a1, a2, a3, fun h ha => ?_⟩
      obtain ⟨S2, R2, b1, b2, b3, b4, b5⟩ := mo_put (G := G) (S := S) (by omega) ha iv.1 hg io.1 io.2.sm hs hv ho
      refine ⟨S2, R2, b1, b3, iv.up ⟨b4 12 (by decide) (by decide), b4 15 (by decide) (by decide), b4 16 (by decide) (by decide), b5 13 (by decide) (by decide) (by decide), b5 14 (by decide) (by decide) (by decide), b5 17 (by decide) (by decide) (by decide), b5 18 (by decide) (by decide) (by decide)⟩ b2 (upG_n (by omega)) (upG_n (by omega)) (upG_n (by omega)) (upG_all iv.2.1 (putG_ok io (okN_of hs hv ho)))⟩
    · obtain ⟨g, hg, e⟩ := okG_nI h1
      refine Or.inl ⟨2, Or.inr ⟨rfl, rfl⟩, by rw [e]; exact mg_put_no2 hr hg h2, fun h ha => ?_⟩
      have e2 := wr_2 h1 h2
      have := mo_put_bad (G := G) (S := S) (R := R) ha (show wr x1 x2 x3 x4 ≠ 0 by rw [e2]; decide)
      rw [e2] at this
      exact this
  · refine Or.inl ⟨1, Or.inl rfl, mg_put_no1 hr h1, fun h ha => ?_⟩
    have e2 := wr_1 (s := x2) (v := x3) (o := x4) h1
    have := mo_put_bad (G := G) (S := S) (R := R) ha (show wr x1 x2 x3 x4 ≠ 0 by rw [e2]; decide)
    rw [e2] at this
    exact this
theorem op_drop (hG : 2 ^ 40 ≤ G) (hr : RC H B gs cc cl bst) (iv : IV S R gs cc cl bst CL) : OPOK B A m true (fun h => f_Mg_drop G (B 43) x1 x2 x3 x4 h) (fun h => f_Mo_drop G m x1 x2 x3 x4 h) S R H := by
  by_cases h1 : okG x1
  · by_cases h2 : okF x2 x3 x4
    · obtain ⟨g, hg, rfl⟩ := okG_nI h1
      obtain ⟨s, hs, rfl⟩ := ok_nI (n := 46) h2.1.1 h2.1.2
      obtain ⟨v, hv, rfl⟩ := ok_nI (n := 40) h2.2.1.1 h2.2.1.2
      obtain ⟨o, ho, rfl⟩ := ok_nI (n := 46) h2.2.2.1 h2.2.2.2
      have io := iv.2.1 g hg
      obtain ⟨h3, a1, a2, a3⟩ := mg_drop (G := G) (by omega) hr hg io.1 io.2.sm hs hv ho
      refine Or.inr ⟨_, h3, _, cc, cl, bst, CL, a1, a2, a3, fun h ha => ?_⟩
      obtain ⟨S2, R2, b1, b2, b3, b4, b5⟩ := mo_drop (G := G) (S := S) (by omega) ha iv.1 hg io.1 io.2.sm hs hv ho
      refine ⟨S2, R2, b1, b3, iv.up ⟨b4 12 (by decide) (by decide), b4 15 (by decide) (by decide), b4 16 (by decide) (by decide), b5 13 (by decide) (by decide) (by decide), b5 14 (by decide) (by decide) (by decide), b5 17 (by decide) (by decide) (by decide), b5 18 (by decide) (by decide) (by decide)⟩ b2 (upG_n (by omega)) (upG_n (by omega)) (upG_n (by omega)) (upG_all iv.2.1 (gDel_ok io))⟩
    · obtain ⟨g, hg, e⟩ := okG_nI h1
      refine Or.inl ⟨2, Or.inr ⟨rfl, rfl⟩, by rw [e]; exact mg_drop_no2 hr hg h2, fun h ha => ?_⟩
      have e2 := wr_2 h1 h2
      have := mo_drop_bad (G := G) (S := S) (R := R) ha (show wr x1 x2 x3 x4 ≠ 0 by rw [e2]; decide)
      rw [e2] at this
      exact this
  · refine Or.inl ⟨1, Or.inl rfl, mg_drop_no1 hr h1, fun h ha => ?_⟩
    have e2 := wr_1 (s := x2) (v := x3) (o := x4) h1
    have := mo_drop_bad (G := G) (S := S) (R := R) ha (show wr x1 x2 x3 x4 ≠ 0 by rw [e2]; decide)
    rw [e2] at this
    exact this
theorem op_copy (hG : 2 ^ 40 ≤ G) (hr : RC H B gs cc cl bst) (iv : IV S R gs cc cl bst CL) : OPOK B A m false (fun h => f_Mg_copy G (B 43) x1 x2 h) (fun h => f_Mo_copy G m x1 x2 h) S R H := by
  by_cases h1 : okG x1
  · by_cases h2 : okG x2
    · obtain ⟨a, ha6, rfl⟩ := okG_nI h1
      obtain ⟨b, hb6, rfl⟩ := okG_nI h2
      obtain ⟨h3, a1, a2, a3⟩ := mg_copy (G := G) (a := a) (b := b) (by omega) hr ha6 hb6
      refine Or.inr ⟨_, h3, _, cc, cl, bst, CL, a1, a2, a3, fun h ha => ?_⟩
      obtain ⟨f1, f2, b1, b2⟩ := mo_copy (G := G) (S := S) (by omega) ha iv.1 ha6 hb6
      exact ⟨_, _, b1, by simp [upd], iv.up ⟨rfl, rfl, rfl, rfl, rfl, rfl, rfl⟩ b2 (upG_n (by omega)) (upG_n (by omega)) (upG_n (by omega)) (upG_all iv.2.1 (iv.2.1 a ha6))⟩
    · obtain ⟨a, ha6, e⟩ := okG_nI h1
      exact Or.inl ⟨1, Or.inl rfl, by rw [e]; exact mg_copy_no2 hr ha6 h2, fun h ha => mo_copy_no ha (fun q => h2 q.2)⟩
  · exact Or.inl ⟨1, Or.inl rfl, mg_copy_no1 hr h1, fun h ha => mo_copy_no ha (fun q => h1 q.1)⟩
theorem op_size (hG : 2 ^ 40 ≤ G) (hr : RC H B gs cc cl bst) (iv : IV S R gs cc cl bst CL) : OPOK B A m false (fun h => f_Mg_size G (B 43) x1 x2 h) (fun h => f_Mo_size G m x1 x2 h) S R H := by
  by_cases h1 : okG x1
  · by_cases h2 : okW x2
    · obtain ⟨g, hg, rfl⟩ := okG_nI h1
      obtain ⟨w, hw, rfl⟩ := ok_nI (n := 3) h2.1 h2.2
      have io := iv.2.1 g hg
      exact Or.inr ⟨_, H, gs, cc, cl, bst, CL, mg_size (by omega) hr hg io.2 hw, Ch.rf, hr, fun h ha => ⟨_, _, mo_size (by omega) ha iv.1 hg io.2.sm hw, by simp [upd], iv.up ⟨rfl, rfl, rfl, rfl, rfl, rfl, rfl⟩ iv.1 rfl rfl rfl iv.2.1⟩⟩
    · obtain ⟨g, hg, e⟩ := okG_nI h1
      exact Or.inl ⟨1, Or.inl rfl, by rw [e]; exact mg_size_no2 hr hg h2, fun h ha => mo_size_no ha (fun q => h2 q.2)⟩
  · exact Or.inl ⟨1, Or.inl rfl, mg_size_no1 hr h1, fun h ha => mo_size_no ha (fun q => h1 q.1)⟩
theorem okK_nI {g : List Nat} {x : Int32} (h : okK g x) : ∃ k : Nat, k < g.length ∧ x = nI k := ok_nI (n := g.length) h.1 h.2
theorem op_fact (hr : RC H B gs cc cl bst) (iv : IV S R gs cc cl bst CL) : OPOK B A m false (fun h => f_Mg_fact G (B 43) x1 x2 h) (fun h => f_Mo_fact G m x1 x2 h) S R H := by
  by_cases h1 : okG x1
  · obtain ⟨g, hg, rfl⟩ := okG_nI h1
    by_cases h2 : okK (gs g) x2
    · obtain ⟨k, hk, rfl⟩ := okK_nI h2
      exact Or.inr ⟨_, H, gs, cc, cl, bst, CL, mg_fact hr hg hk, Ch.rf, hr, fun h ha => ⟨_, _, mo_fact ha iv.1 hg hk, by simp [upd], iv.up ⟨rfl, rfl, rfl, rfl, rfl, rfl, rfl⟩ iv.1 rfl rfl rfl iv.2.1⟩⟩
    · exact Or.inl ⟨1, Or.inl rfl, mg_fact_no2 hr hg h2, fun h ha => mo_fact_no2 ha iv.1 hg h2⟩
  · exact Or.inl ⟨1, Or.inl rfl, mg_fact_no1 hr h1, fun h ha => mo_fact_no1 ha h1⟩
theorem KpQ.sk {S2 : Nat → Int32} {R2 : Nat → Nat → Int32} (k : KpQ S R S2 R2) : SK S R S2 R2 := ⟨k.1 12 (by decide) (by decide) (by decide) (by decide), k.1 15 (by decide) (by decide) (by decide) (by decide), k.1 16 (by decide) (by decide) (by decide) (by decide), k.2 13 (by decide) (by decide) (by decide) (by decide) (by decide) (by decide), k.2 14 (by decide) (by decide) (by decide) (by decide) (by decide) (by decide), k.2 17 (by decide) (by decide) (by decide) (by decide) (by decide) (by decide), k.2 18 (by decide) (by decide) (by decide) (by decide) (by decide) (by decide)⟩
/-- a question leaves the graphs as they are -/
theorem IV.q {S2 : Nat → Int32} {R2 : Nat → Nat → Int32} {X : List Nat} (iv : IV S R gs cc cl bst CL) (k : KpQ S R S2 R2) : IV S2 R2 (upG gs 9 X) cc cl bst CL :=
  iv.up k.sk (moG_c (k.g iv.1) (fun i hi => upG_n (by omega))) (upG_n (by omega)) (upG_n (by omega)) (upG_n (by omega)) (fun i hi => by rw [upG_n (by omega)]; exact iv.2.1 i hi)
theorem op_alike (hG : 2 ^ 40 ≤ G) (hr : RC H B gs cc cl bst) (iv : IV S R gs cc cl bst CL) : OPOK B A m false (fun h => f_Mg_alike G (B 43) x1 x2 h) (fun h => f_Mo_alike G m x1 x2 h) S R H := by
  by_cases hb : okG x1 ∧ okG x2
  · obtain ⟨p, hp, rfl⟩ := okG_nI hb.1
    obtain ⟨t, ht, rfl⟩ := okG_nI hb.2
    have ip := iv.2.1 p hp
    have it := iv.2.1 t ht
    obtain ⟨h2, b, X, a1, a2, a3, a4⟩ := mg_alike (G := G) (by omega) hr hp ht ip.2 it.2
    refine Or.inr ⟨_, h2, _, cc, cl, bst, CL, a1, a2, a3, fun h ha => ?_⟩
    obtain ⟨S2, R2, b', c1, c2, c3, c4⟩ := mo_alike (G := G) (S := S) hG ha iv.1 hp ht ip.1 ip.2 it.2
    have e := a4.un c4
    subst e
    exact ⟨S2, R2, c1, c2, iv.q c3⟩
  · exact Or.inl ⟨1, Or.inl rfl, mg_alike_no hr hb, fun h ha => mo_alike_no ha hb⟩
theorem op_image (hG : 2 ^ 40 ≤ G) (hr : RC H B gs cc cl bst) (iv : IV S R gs cc cl bst CL) : OPOK B A m false (fun h => f_Mg_image G (B 43) x1 x2 x3 h) (fun h => f_Mo_image G m x1 x2 x3 h) S R H := by
  by_cases hb : okG x1 ∧ okG x2
  · obtain ⟨p, hp, rfl⟩ := okG_nI hb.1
    obtain ⟨t, ht, rfl⟩ := okG_nI hb.2
    have ip := iv.2.1 p hp
    have it := iv.2.1 t ht
    obtain ⟨h2, v, X, a1, a2, a3, a4⟩ := mg_image (G := G) (x := x3) (by omega) hr hp ht ip.2 it.2
    refine Or.inr ⟨_, h2, _, cc, cl, bst, CL, a1, a2, a3, fun h ha => ?_⟩
    obtain ⟨S2, R2, v', c1, c2, c3, c4⟩ := mo_image (G := G) (S := S) (x := x3) hG ha iv.1 hp ht ip.1 ip.2 it.2
    have e := a4.un c4
    subst e
    exact ⟨S2, R2, c1, c2, iv.q c3⟩
  · exact Or.inl ⟨1, Or.inl rfl, mg_image_no hr hb, fun h ha => mo_image_no ha hb⟩
theorem op_follows (hG : 2 ^ 40 ≤ G) (hr : RC H B gs cc cl bst) (iv : IV S R gs cc cl bst CL) : OPOK B A m false (fun h => f_Mg_follows G (B 43) x1 x2 h) (fun h => f_Mo_follows G m x1 x2 h) S R H := by
  by_cases hb : okG x1 ∧ okG x2
  · obtain ⟨t, ht, rfl⟩ := okG_nI hb.1
    obtain ⟨p, hp, rfl⟩ := okG_nI hb.2
    have ip := iv.2.1 p hp
    have it := iv.2.1 t ht
    obtain ⟨h2, b, X, a1, a2, a3, a4⟩ := mg_follows (G := G) (by omega) hr hp ht ip.2 it.2
    refine Or.inr ⟨_, h2, _, cc, cl, bst, CL, a1, a2, a3, fun h ha => ?_⟩
    obtain ⟨S2, R2, b', c1, c2, c3, c4⟩ := mo_follows (G := G) (S := S) hG ha iv.1 hp ht ip.1 ip.2 it.2
    have e := a4.un c4
    subst e
    exact ⟨S2, R2, c1, c2, iv.q c3⟩
  · exact Or.inl ⟨1, Or.inl rfl, mg_follows_no hr hb, fun h ha => mo_follows_no ha hb⟩
theorem op_putting (hG : 2 ^ 40 ≤ G) (hr : RC H B gs cc cl bst) (iv : IV S R gs cc cl bst CL) : OPOK B A m false (fun h => f_Mg_putting G (B 43) x1 x2 x3 h) (fun h => f_Mo_putting G m x1 x2 x3 h) S R H := by
  by_cases hb : okG x1 ∧ okG x2
  · obtain ⟨t, ht, rfl⟩ := okG_nI hb.1
    obtain ⟨p, hp, rfl⟩ := okG_nI hb.2
    have ip := iv.2.1 p hp
    have it := iv.2.1 t ht
    obtain ⟨h2, v, X, a1, a2, a3, a4⟩ := mg_putting (G := G) (x := x3) (by omega) hr hp ht ip.2 it.2
    refine Or.inr ⟨_, h2, _, cc, cl, bst, CL, a1, a2, a3, fun h ha => ?_⟩
    obtain ⟨S2, R2, v', c1, c2, c3, c4⟩ := mo_putting (G := G) (S := S) (x := x3) hG ha iv.1 hp ht ip.1 ip.2 it.2
    have e := a4.un c4
    subst e
    exact ⟨S2, R2, c1, c2, iv.q c3⟩
  · exact Or.inl ⟨1, Or.inl rfl, mg_putting_no hr hb, fun h ha => mo_putting_no ha hb⟩
theorem op_lean (hG : 2 ^ 40 ≤ G) (hr : RC H B gs cc cl bst) (iv : IV S R gs cc cl bst CL) : OPOK B A m false (fun h => f_Mg_lean G (B 43) x1 h) (fun h => f_Mo_lean G m x1 h) S R H := by
  by_cases hb : okG x1
  · obtain ⟨p, hp, rfl⟩ := okG_nI hb
    have ip := iv.2.1 p hp
    obtain ⟨h2, b, X, a1, a2, a3, a4⟩ := mg_lean (G := G) (by omega) hr hp ip.1 ip.2
    refine Or.inr ⟨_, h2, _, cc, cl, bst, CL, a1, a2, a3, fun h ha => ?_⟩
    obtain ⟨S2, R2, b', c1, c2, c3, c4⟩ := mo_lean (G := G) (S := S) hG ha iv.1 hp ip.1 ip.2
    have e := a4.un c4
    subst e
    exact ⟨S2, R2, c1, c2, iv.q c3⟩
  · exact Or.inl ⟨1, Or.inl rfl, mg_lean_no hr hb, fun h ha => mo_lean_no ha hb⟩
theorem op_core (hG : 2 ^ 40 ≤ G) (hr : RC H B gs cc cl bst) (iv : IV S R gs cc cl bst CL) : OPOK B A m false (fun h => f_Mg_core G (B 43) x1 h) (fun h => f_Mo_core G m x1 h) S R H := by
  by_cases hb : okG x1
  · obtain ⟨p, hp, rfl⟩ := okG_nI hb
    have ip := iv.2.1 p hp
    obtain ⟨h2, n, Q, X, Y, a1, a2, a3, a4⟩ := mg_core (G := G) (by omega) hr hp ip.1 ip.2
    refine Or.inr ⟨_, h2, _, cc, cl, bst, CL, a1, a2, a3, fun h ha => ?_⟩
    obtain ⟨S2, R2, n', Q', c1, c2, c3, c4, c5, c6⟩ := mo_core (G := G) (S := S) hG ha iv.1 hp ip.1 ip.2
    obtain ⟨e1, e2⟩ := Chn.un n n' (gs p) Q Q' ip.2 a4 c3
    subst e1 e2
    have qo := Chn.ok n (gs p) Q ip.1 ip.2 a4
    have eg : ∀ i, i < 6 → upG (upG (upG gs 9 X) 6 Y) p Q i = upG gs p Q i := fun i hi => by
      unfold upG
      by_cases q : i = p
      · rw [if_pos q, if_pos q]
      · rw [if_neg q, if_neg q, if_neg (by omega), if_neg (by omega)]
    refine ⟨S2, R2, c1, c4, iv.up ⟨c5 12 (by decide) (by decide) (by decide) (by decide), c5 15 (by decide) (by decide) (by decide) (by decide), c5 16 (by decide) (by decide) (by decide) (by decide), c6 13 (by decide) (by decide) (by decide) (by decide) (by decide) (by decide) (by decide), c6 14 (by decide) (by decide) (by decide) (by decide) (by decide) (by decide) (by decide), c6 17 (by decide) (by decide) (by decide) (by decide) (by decide) (by decide) (by decide), c6 18 (by decide) (by decide) (by decide) (by decide) (by decide) (by decide) (by decide)⟩ (moG_c c2 eg) ?_ ?_ ?_ (fun i hi => by rw [eg i hi]; exact upG_all iv.2.1 qo i hi)⟩
    · rw [upG_n (by omega), upG_n (by omega), upG_n (by omega)]
    · rw [upG_n (by omega), upG_n (by omega), upG_n (by omega)]
    · rw [upG_n (by omega), upG_n (by omega), upG_n (by omega)]
  · exact Or.inl ⟨1, Or.inl rfl, mg_core_no hr hb, fun h ha => mo_core_no (by omega) ha hb⟩
theorem op_form (hG : 2 ^ 40 ≤ G) (hr : RC H B gs cc cl bst) (iv : IV S R gs cc cl bst CL) : OPOK B A m false (fun h => f_Mg_form G (B 43) x1 x2 h) (fun h => f_Mo_form G m x1 x2 h) S R H := by
  by_cases h1 : okG x1
  · obtain ⟨g, hg, rfl⟩ := okG_nI h1
    have io := iv.2.1 g hg
    by_cases h2 : okK (gs g) x2
    · obtain ⟨k, hk, rfl⟩ := okK_nI h2
      obtain ⟨i1, i2, i3, i4, i5, i6, i7, i8⟩ := id iv
      obtain ⟨h3, bst2, L, a1, a2, a3, a4, a5⟩ := mg_form (G := G) (by omega) hr hg io.1 io.2 i8 hk
      refine Or.inr ⟨_, h3, _, cc, cl, bst2, CL, a1, a2, a3, fun h ha => ?_⟩
      obtain ⟨S2, R2, L2, c1, c2, c3, c4⟩ := mo_form (G := G) (S := S) hG ha iv.1 hg io.1 io.2 hk
      have e := a5.un io.1 io.2 c2
      subst e
      obtain ⟨k1, k2, k3, k4, k5, k6, k7⟩ := c4.sk
      refine ⟨S2, R2, c1, c3, moG_c (c4.g iv.1) (fun i hi => upG_n (by omega)), fun i hi => by rw [upG_n (by omega)]; exact i2 i hi, ?_, ?_, ?_, i6, moK_3 i7 k1 k4 k5, by rw [upG_s]; exact a4⟩
      · rw [upG_n (by omega), upG_n (by omega)]; exact moC_3 i3 k2 k3 k6 k7
      · rw [upG_n (by omega)]; exact i4
      · rw [upG_n (by omega)]; exact i5
    · exact Or.inl ⟨1, Or.inl rfl, mg_form_no2 hr hg h2, fun h ha => mo_form_no2 ha iv.1 hg h2⟩
  · exact Or.inl ⟨1, Or.inl rfl, mg_form_no1 hr h1, fun h ha => mo_form_no1 ha h1⟩
theorem op_join (hG : 2 ^ 40 ≤ G) (hr : RC H B gs cc cl bst) (iv : IV S R gs cc cl bst CL) : OPOK B A m false (fun h => f_Mg_join G (B 43) x1 x2 x3 h) (fun h => f_Mo_join G m x1 x2 x3 h) S R H := by
  by_cases hb : okG x1 ∧ okG x2 ∧ okG x3
  · obtain ⟨a, ha6, rfl⟩ := okG_nI hb.1
    obtain ⟨b, hb6, rfl⟩ := okG_nI hb.2.1
    obtain ⟨t, ht6, rfl⟩ := okG_nI hb.2.2
    have ia := iv.2.1 a ha6
    have ib := iv.2.1 b hb6
    obtain ⟨h2, g2, a1, a2, a3⟩ := mg_join (G := G) (by omega) hr ha6 hb6 ht6 ia.1 ia.2 ib.2
    refine Or.inr ⟨_, h2, _, cc, cl, bst, CL, a1, a2, a3, fun h ha => ?_⟩
    obtain ⟨S2, R2, c1, c2, c3, c4, c5⟩ := mo_join (G := G) (S := S) (by omega) ha iv.1 ha6 hb6 ht6 ia.1 ia.2 ib.2
    have sk : SK S R S2 R2 := ⟨c4 12 (by decide) (by decide) (by decide) (by decide), c4 15 (by decide) (by decide) (by decide) (by decide), c4 16 (by decide) (by decide) (by decide) (by decide), c5 13 (by decide) (by decide) (by decide) (by decide) (by decide) (by decide), c5 14 (by decide) (by decide) (by decide) (by decide) (by decide) (by decide), c5 17 (by decide) (by decide) (by decide) (by decide) (by decide) (by decide), c5 18 (by decide) (by decide) (by decide) (by decide) (by decide) (by decide)⟩
    refine ⟨S2, R2, c1, c3, ?_⟩
    cases e : jnOk (gs a) (gs b)
    · rw [e, if_neg (by decide)] at c2
      rw [if_neg (by decide)]
      exact iv.up sk (moG_c c2 (fun i hi => upG_n (by omega))) (upG_n (by omega)) (upG_n (by omega)) (upG_n (by omega)) (fun i hi => by rw [upG_n (by omega)]; exact iv.2.1 i hi)
    · rw [e, if_pos rfl] at c2
      rw [if_pos rfl]
      have jo : Asc (jn (gs a) (gs b)) ∧ okL (jn (gs a) (gs b)) := ⟨addP_asc _ _ ia.1, addP_ok ia.2 (fun n hn _ => ren_ok ib.2 jr_tot hn)⟩
      have eg : ∀ i, i < 6 → upG (upG gs 6 g2) t (jn (gs a) (gs b)) i = upG gs t (jn (gs a) (gs b)) i := fun i hi => by
        unfold upG
        by_cases q : i = t
        · rw [if_pos q, if_pos q]
        · rw [if_neg q, if_neg q, if_neg (by omega)]
      refine iv.up sk (moG_c c2 eg) ?_ ?_ ?_ (fun i hi => by rw [eg i hi]; exact upG_all iv.2.1 jo i hi)
      · rw [upG_n (by omega), upG_n (by omega)]
      · rw [upG_n (by omega), upG_n (by omega)]
      · rw [upG_n (by omega), upG_n (by omega)]
  · exact Or.inl ⟨1, Or.inl rfl, mg_join_no hr hb, fun h ha => mo_join_no ha hb⟩
theorem op_merge (hG : 2 ^ 40 ≤ G) (hr : RC H B gs cc cl bst) (iv : IV S R gs cc cl bst CL) : OPOK B A m false (fun h => f_Mg_merge G (B 43) x1 x2 x3 x4 h) (fun h => f_Mo_merge G m x1 x2 x3 x4 h) S R H := by
  by_cases hb : okG x1 ∧ okG x2 ∧ okG x3 ∧ okG x4
  · obtain ⟨i, hi6, rfl⟩ := okG_nI hb.1
    obtain ⟨a, ha6, rfl⟩ := okG_nI hb.2.1
    obtain ⟨b, hb6, rfl⟩ := okG_nI hb.2.2.1
    obtain ⟨t, ht6, rfl⟩ := okG_nI hb.2.2.2
    have ii := iv.2.1 i hi6
    have ia := iv.2.1 a ha6
    have ib := iv.2.1 b hb6
    obtain ⟨h2, g2, cc2, cl2, a1, a2, a3⟩ := mg_merge (G := G) (by omega) hr hi6 ha6 hb6 ht6 ii.1 ia.1 ib.1 ii.2 ia.2 ib.2
    by_cases hf : (mrg (gs i) (gs a) (gs b)).length ≤ 30
    · rw [if_pos hf] at a1 a3
      obtain ⟨r1, r2, r3⟩ := a3
      refine Or.inr ⟨_, h2, _, cc2, cl2, bst, clL (gs i) (gs a) (gs b), a1, a2, r1, fun h ha => ?_⟩
      obtain ⟨S2, R2, c1, c2, c3, c4, c5⟩ := mo_merge (G := G) (S := S) (by omega) ha iv.1 hi6 ha6 hb6 ht6 ia.1 ii.2.sm ia.2.sm ib.2.sm
      rw [if_pos hf] at c1 c5
      obtain ⟨i1, i2, i3, i4, i5, i6, i7, i8⟩ := id iv
      have mo : Asc (mrg (gs i) (gs a) (gs b)) ∧ okL (mrg (gs i) (gs a) (gs b)) := ⟨mrg_asc, mrg_ok ii.2 ia.2 ib.2⟩
      have eg : ∀ j, j < 6 → upG (upG gs 6 g2) t (mrg (gs i) (gs a) (gs b)) j = upG gs t (mrg (gs i) (gs a) (gs b)) j := fun j hj => by
        unfold upG
        by_cases q : j = t
        · rw [if_pos q, if_pos q]
        · rw [if_neg q, if_neg q, if_neg (by omega)]
      have e7 : ∀ j, 6 < j → upG (upG gs 6 g2) t (mrg (gs i) (gs a) (gs b)) j = gs j := fun j hj => by rw [upG_n (by omega), upG_n (by omega)]
      refine ⟨S2, R2, c1, c2, moG_c c5.1 eg, fun j hj => by rw [eg j hj]; exact upG_all i2 mo j hj, ?_, ?_, ?_, ⟨r2, r3, clL_len, fun n hn => ?_⟩, c5.2, ?_⟩
      · rw [e7 7 (by omega), e7 8 (by omega)]
        exact moC_3 i3 (c3 15 (by decide) (by decide) (by decide)) (c3 16 (by decide) (by decide) (by decide)) (c4 17 (by decide) (by decide) (by decide) (by decide) (by decide)) (c4 18 (by decide) (by decide) (by decide) (by decide) (by decide))
      · rw [e7 7 (by omega)]; exact i4
      · rw [e7 8 (by omega)]; exact i5
      · exact List.mem_range.mp (List.mem_filter.mp hn).1
      · rw [e7 10 (by omega)]; exact i8
    · rw [if_neg hf] at a1 a3
      refine Or.inr ⟨_, h2, _, cc, cl, bst, CL, a1, a2, a3, fun h ha => ?_⟩
      obtain ⟨S2, R2, c1, c2, c3, c4, c5⟩ := mo_merge (G := G) (S := S) (by omega) ha iv.1 hi6 ha6 hb6 ht6 ia.1 ii.2.sm ia.2.sm ib.2.sm
      rw [if_neg hf] at c1 c5
      exact ⟨S2, R2, c1, c2, iv.up ⟨c5.2.1, c3 15 (by decide) (by decide) (by decide), c3 16 (by decide) (by decide) (by decide), c5.2.2.1, c5.2.2.2, c4 17 (by decide) (by decide) (by decide) (by decide) (by decide), c4 18 (by decide) (by decide) (by decide) (by decide) (by decide)⟩ (moG_c c5.1 (fun j hj => upG_n (by omega))) (upG_n (by omega)) (upG_n (by omega)) (upG_n (by omega)) (fun j hj => by rw [upG_n (by omega)]; exact iv.2.1 j hj)⟩
  · exact Or.inl ⟨1, Or.inl rfl, mg_merge_no hr hb, fun h ha => mo_merge_no ha hb⟩
theorem op_clash (hr : RC H B gs cc cl bst) (iv : IV S R gs cc cl bst CL) : OPOK B A m false (fun h => f_Mg_clash G (B 43) x1 x2 h) (fun h => f_Mo_clash G m x1 x2 h) S R H := by
  obtain ⟨i1, i2, i3, i4, i5, ⟨j1, j2, j3, j4⟩, i7, i8⟩ := id iv
  by_cases h1 : okK CL x1
  · obtain ⟨k, hk, rfl⟩ := okK_nI h1
    by_cases h2 : okT x2
    · obtain ⟨w, hw, rfl⟩ := ok_nI (n := 2) h2.1 h2.2
      exact Or.inr ⟨_, H, gs, cc, cl, bst, CL, mg_clash hr j1 j3 j2 j4 hk hw, Ch.rf, hr, fun h ha => ⟨_, _, mo_clash ha i7 j3 hk hw, by simp [upd], iv.up ⟨rfl, rfl, rfl, rfl, rfl, rfl, rfl⟩ iv.1 rfl rfl rfl iv.2.1⟩⟩
    · exact Or.inl ⟨1, Or.inl rfl, mg_clash_no2 hr j1 j3 hk h2, fun h ha => mo_clash_no ha i7 j3 (fun q => h2 q.2)⟩
  · exact Or.inl ⟨1, Or.inl rfl, mg_clash_no1 hr j1 j3 h1, fun h ha => mo_clash_no ha i7 j3 (fun q => h1 q.1)⟩
theorem op_change (hG : 2 ^ 40 ≤ G) (hr : RC H B gs cc cl bst) (iv : IV S R gs cc cl bst CL) : OPOK B A m false (fun h => f_Mg_change G (B 43) x1 x2 h) (fun h => f_Mo_change G m x1 x2 h) S R H := by
  by_cases h1 : okG x1
  · obtain ⟨a, ha6, rfl⟩ := okG_nI h1
    by_cases h2 : okG x2
    · obtain ⟨b, hb6, rfl⟩ := okG_nI h2
      have ia := iv.2.1 a ha6
      have ib := iv.2.1 b hb6
      obtain ⟨h3, a1, a2, a3⟩ := mg_change (G := G) (by omega) hr ha6 hb6 ia.1 ia.2.sm ib.1 ib.2.sm
      refine Or.inr ⟨_, h3, _, cc, cl, bst, CL, a1, a2, a3, fun h ha => ?_⟩
      obtain ⟨S2, R2, c1, c2, c3, c4, c5⟩ := mo_change (G := G) (S := S) (by omega) ha iv.1 ha6 hb6 ia.2.sm ib.2.sm
      obtain ⟨i1, i2, i3, i4, i5, i6, i7, i8⟩ := id iv
      have e7 : upG (upG gs 7 (dif (gs a) (gs b))) 8 (dif (gs b) (gs a)) 7 = dif (gs a) (gs b) := by rw [upG_n (by omega), upG_s]
      have e8 : upG (upG gs 7 (dif (gs a) (gs b))) 8 (dif (gs b) (gs a)) 8 = dif (gs b) (gs a) := upG_s
      have e6 : ∀ j, j < 6 → upG (upG gs 7 (dif (gs a) (gs b))) 8 (dif (gs b) (gs a)) j = gs j := fun j hj => by rw [upG_n (by omega), upG_n (by omega)]
      refine ⟨S2, R2, c1, c3, moG_c (moG_n i1 (c5 1 (by decide) (by decide)) (c5 2 (by decide) (by decide))) e6, fun j hj => by rw [e6 j hj]; exact i2 j hj, ?_, ?_, ?_, i6, moK_3 i7 (c4 12 (by decide) (by decide) (by decide)) (c5 13 (by decide) (by decide)) (c5 14 (by decide) (by decide)), ?_⟩
      · rw [e7, e8]; exact c2
      · rw [e7]; exact ⟨dif_asc ia.1, dif_ok ia.2⟩
      · rw [e8]; exact ⟨dif_asc ib.1, dif_ok ib.2⟩
      · rw [upG_n (by omega), upG_n (by omega)]; exact i8
    · exact Or.inl ⟨1, Or.inl rfl, mg_change_no2 hr ha6 h2, fun h ha => mo_change_no ha (fun q => h2 q.2)⟩
  · exact Or.inl ⟨1, Or.inl rfl, mg_change_no1 hr h1, fun h ha => mo_change_no ha (fun q => h1 q.1)⟩
theorem op_part (hr : RC H B gs cc cl bst) (iv : IV S R gs cc cl bst CL) : OPOK B A m false (fun h => f_Mg_part G (B 43) x1 x2 h) (fun h => f_Mo_part G m x1 x2 h) S R H := by
  by_cases h1 : okT x1
  · by_cases h2 : x2 < 0
    · exact Or.inl ⟨1, Or.inl rfl, mg_part_no2 h1 h2, fun h ha => mo_part_no ha (fun q => q.2 h2)⟩
    · obtain ⟨w, hw, rfl⟩ := ok_nI (n := 2) h1.1 h1.2
      obtain ⟨k, hk, rfl⟩ := nI_of h2
      refine Or.inr ⟨_, H, gs, cc, cl, bst, CL, mg_part hr hw hk, Ch.rf, hr, fun h ha => ⟨upd S 0 0, R, ?_, by simp [upd], iv.up ⟨rfl, rfl, rfl, rfl, rfl, rfl, rfl⟩ iv.1 rfl rfl rfl iv.2.1⟩⟩
      have := mo_part (G := G) (w := w) (k := k) ha iv.2.2.1 hw hk
      by_cases h0 : w = 0
      · subst h0
        rw [if_pos rfl] at this
        exact this
      · have e1 : w = 1 := by omega
        subst e1
        rw [if_neg (by decide)] at this
        exact this
  · exact Or.inl ⟨1, Or.inl rfl, mg_part_no1 h1, fun h ha => mo_part_no ha (fun q => h1 q.1)⟩
theorem op_apply (bk : Bool) (hG : 2 ^ 40 ≤ G) (hr : RC H B gs cc cl bst) (iv : IV S R gs cc cl bst CL) : OPOK B A m false (fun h => f_Mg_apply G (B 43) x1 (bI bk) h) (fun h => f_Mo_apply G m x1 (bI bk) h) S R H := by
  by_cases h1 : okG x1
  · obtain ⟨g, hg, rfl⟩ := okG_nI h1
    have io := iv.2.1 g hg
    obtain ⟨i1, i2, i3, i4, i5, i6, i7, i8⟩ := id iv
    obtain ⟨h3, a1, a2, a3⟩ := mg_apply (G := G) (x2 := bI bk) (by omega) hr hg io.1 io.2.sm i4.1 i4.2.sm i5.1 i5.2.sm
    have eL : (if bI bk = 0 then gs 7 else gs 8) = (if bk = true then gs 8 else gs 7) := by cases bk <;> rfl
    have eC : (if bI bk = 0 then gs 8 else gs 7) = (if bk = true then gs 7 else gs 8) := by cases bk <;> rfl
    rw [eL, eC] at a1 a3
    refine Or.inr ⟨_, h3, _, cc, cl, bst, CL, a1, a2, a3, fun h ha => ?_⟩
    obtain ⟨S2, R2, c1, c2, c3, c4, c5⟩ := mo_apply (G := G) (S := S) bk (by omega) ha i1 i3 hg io.1 io.2.sm i4.2.sm i5.2.sm i4.1 i5.1
    have sk : SK S R S2 R2 := ⟨c4 12 (by decide) (by decide), c4 15 (by decide) (by decide), c4 16 (by decide) (by decide), c5 13 (by decide) (by decide) (by decide), c5 14 (by decide) (by decide) (by decide), c5 17 (by decide) (by decide) (by decide), c5 18 (by decide) (by decide) (by decide)⟩
    refine ⟨S2, R2, c1, c3, ?_⟩
    cases e : apOk (gs g) (if bk = true then gs 8 else gs 7) (if bk = true then gs 7 else gs 8)
    · rw [e, if_neg (show ¬ false = true by decide)] at c2
      rw [if_neg (show ¬ false = true by decide)]
      exact iv.up sk c2 rfl rfl rfl i2
    · rw [e, if_pos (show true = true from rfl)] at c2
      rw [if_pos (show true = true from rfl)]
      have okc : okL (if bk = true then gs 7 else gs 8) := by
        split
        · exact i4.2
        · exact i5.2
      exact iv.up sk c2 (upG_n (by omega)) (upG_n (by omega)) (upG_n (by omega)) (upG_all i2 (apG_ok io okc))
  · exact Or.inl ⟨1, Or.inl rfl, mg_apply_no hr h1, fun h ha => mo_apply_no ha h1⟩
end OPS
