/-! PURE: change, part -/
theorem BK.nc {h : pH} {B : Nat → Nat} (hb : BK h B) {i j : Nat} (hi : i < 11) (hj : j < 44) (h1 : j ≠ i) (h2 : j ≠ 11 + i) : ¬ cel (B i) (B (11 + i)) (B j) := by
  rintro (q | q)
  · exact hb.ne hj (by omega) h1 q
  · exact hb.ne hj (by omega) h2 q
theorem upG_s {gs : Nat → List Nat} {i : Nat} {l : List Nat} : upG gs i l i = l := if_pos rfl
theorem upG_n {gs : Nat → List Nat} {i j : Nat} {l : List Nat} (h : j ≠ i) : upG gs i l j = gs j := if_neg h
theorem upG_u {gs : Nat → List Nat} {i : Nat} {l k : List Nat} : upG (upG gs i l) i k = upG gs i k := funext fun j => by unfold upG; split <;> rfl
theorem inB_c {B : Nat → Nat} {i : Nat} (hi : i < 11) : ∀ x, cel (B i) (B (11 + i)) x → inB B x := inB_g hi
section CH
variable {G : Nat} {h : pH} {B : Nat → Nat} {gs : Nat → List Nat} {cc : Int32} {cl bst : Nat → Int32}
theorem RC.f (hr : RC h B gs cc cl bst) {j v : Nat} (hj : [Value.ref (B 22), .ref (B 6), .ref (B 7), .ref (B 8), .ref (B 23), .int cc, .ref (B 24), .ref (B 25), .ref (B 38)][j]? = some (.ref v)) : gR h (B 43) 3 j = some v := gR_of hr.2.2.1 (hr.1.1 43 (by omega)) hj
/-- one of the class's spare graphs becomes a \ b -/
theorem mg_diff {i a b : Nat} (hG : 100 ≤ G) (hr : RC h B gs cc cl bst) (hi : i < 11) (ha : a < 11) (hb : b < 11) (hia : a ≠ i) (hib : b ≠ i) (hA : Asc (gs a)) (hAs : Sm (gs a)) (hB : Asc (gs b)) (hBs : Sm (gs b)) :
    ∃ h1 h2 : pH, f_Gr_clear G (B i) h = some (none, h1) ∧ RC h1 B (upG gs i []) cc cl bst ∧ f_Gr_insertMissing G (B i) (B a) (B b) h1 = some (some (.int 1), h2) ∧ Ch h h2 (inB B) ∧ RC h2 B (upG gs i (dif (gs a) (gs b))) cc cl bst := by
  obtain ⟨h1, a1, a2, a3⟩ := gr_clear (G := G) (hr.2.1 i hi)
  have r1 := hr.set hi a2 a3
  have g0 := r1.2.1 i hi
  have ga := r1.2.1 a ha
  have gb := r1.2.1 b hb
  rw [upG_s] at g0
  rw [upG_n hia] at ga
  rw [upG_n hib] at gb
  obtain ⟨h2, g2, b1, b2, b3, b4⟩ := gr_insMiss (G := G) hG g0 asc_nil sm_nil ga hAs gb hB hBs (r1.1.nc hi (by omega) hia (by omega)) (r1.1.nc hi (by omega) (by omega) (by omega)) (r1.1.nc hi (by omega) hib (by omega)) (r1.1.nc hi (by omega) (by omega) (by omega))
  rw [add_dif hA] at b1 b4
  have hle : (dif (gs a) (gs b)).length ≤ 30 := Nat.le_trans dif_len (hr.2.1 a ha).2.2.2.2.1
  rw [decide_eq_true hle] at b1
  rw [b4 hle] at b3
  refine ⟨h1, h2, a1, r1, b1, (a2.mono (inB_g hi)).tr (b2.mono (inB_c hi)), ?_⟩
  have r2 := r1.set hi b2 b3
  rw [upG_u] at r2
  exact r2
theorem mg_change_no1 {x1 x2 : Int32} (hr : RC h B gs cc cl bst) (hg : ¬ okG x1) : f_Mg_change G (B 43) x1 x2 h = some (.inl 1, h) := by
  rw [f_Mg_change_eq, tR_th hr.is (mg_graphAt_no hg)]
theorem mg_change_no2 {a : Nat} {x2 : Int32} (hr : RC h B gs cc cl bst) (ha : a < 6) (hg : ¬ okG x2) : f_Mg_change G (B 43) (nI a) x2 h = some (.inl 1, h) := by
  rw [f_Mg_change_eq, tR_of hr.is (mg_graphAt hr ha), tR_th hr.is (mg_graphAt_no hg)]
theorem mg_change {a b : Nat} (hG : 100 ≤ G) (hr : RC h B gs cc cl bst) (ha : a < 6) (hb : b < 6) (hA : Asc (gs a)) (hAs : Sm (gs a)) (hB : Asc (gs b)) (hBs : Sm (gs b)) :
    ∃ h2 : pH, f_Mg_change G (B 43) (nI a) (nI b) h = some (.inr (some (.int (nI ((dif (gs a) (gs b)).length + (dif (gs b) (gs a)).length)))), h2) ∧ Ch h h2 (inB B) ∧ RC h2 B (upG (upG gs 7 (dif (gs a) (gs b))) 8 (dif (gs b) (gs a))) cc cl bst := by
  obtain ⟨h1, h2, a1, a2, a3, a4, a5⟩ := mg_diff (i := 7) (a := a) (b := b) hG hr (by omega) (by omega) (by omega) (by omega) (by omega) hA hAs hB hBs
  obtain ⟨h3, h4, b1, b2, b3, b4, b5⟩ := mg_diff (i := 8) (a := b) (b := a) hG a5 (by omega) (by omega) (by omega) (by omega) (by omega) (by rw [upG_n (by omega)]; exact hB) (by rw [upG_n (by omega)]; exact hBs) (by rw [upG_n (by omega)]; exact hA) (by rw [upG_n (by omega)]; exact hAs)
  rw [upG_n (show b ≠ 7 by omega), upG_n (show a ≠ 7 by omega)] at b5
  refine ⟨h4, ?_, a4.tr b4, b5⟩
  have g7 := b5.2.1 7 (by omega)
  have g8 := b5.2.1 8 (by omega)
  rw [upG_n (by omega), upG_s] at g7
  rw [upG_s] at g8
  rw [f_Mg_change_eq, tR_of hr.is (mg_graphAt hr ha), tR_of hr.is (mg_graphAt hr hb), hr.f (v := B 7) rfl, Option.bind_some, cV_of (hr.2.1 7 (by omega)).is a1, a2.f (v := B 7) rfl, Option.bind_some, cI_of (a2.2.1 7 (by omega)).is a3, a5.f (v := B 8) rfl, Option.bind_some, cV_of (a5.2.1 8 (by omega)).is b1, b2.f (v := B 8) rfl, Option.bind_some, cI_of (b2.2.1 8 (by omega)).is b3, b5.f (v := B 7) rfl, Option.bind_some, cI_of g7.is (gr_count g7), b5.f (v := B 8) rfl, Option.bind_some, cI_of g8.is (gr_count g8), nI_add]
/-- part -/
def okT (w : Int32) : Prop := 0 ≤ w.toInt ∧ w.toInt < 2
theorem mg_two {w : Int32} {H : pH} (hw : okT w) : f_Mg_checkOneOfTwo G w H = some (.inr none, H) := by
  obtain ⟨j, h1, rfl⟩ := ok_nI (n := 2) hw.1 hw.2
  rcases Nat.lt_or_ge j 1 with q | q
  · have : j = 0 := by omega
    subst this; rfl
  · have : j = 1 := by omega
    subst this; rfl
theorem mg_two_no {w : Int32} {H : pH} (hw : ¬ okT w) : f_Mg_checkOneOfTwo G w H = some (.inl 1, H) := by
  have h0 : w ≠ 0 := fun q => hw (by rw [q]; exact ⟨by decide, by decide⟩)
  have h1 : w ≠ 1 := fun q => hw (by rw [q]; exact ⟨by decide, by decide⟩)
  rw [f_Mg_checkOneOfTwo_eq]
  simp only [h0, h1, if_false]
theorem mg_part_no1 {x1 x2 : Int32} (hw : ¬ okT x1) : f_Mg_part G (B 43) x1 x2 h = some (.inl 1, h) := by
  rw [f_Mg_part_eq, tV_th rfl (mg_two_no hw)]
theorem mg_part_no2 {x1 x2 : Int32} (hw : okT x1) (hk : x2 < 0) : f_Mg_part G (B 43) x1 x2 h = some (.inl 1, h) := by
  rw [f_Mg_part_eq, tV_of rfl (mg_two hw), if_neg]
  rw [i_lt0] at hk
  rw [i_ge (show (0 : Int32).toInt = 0 by decide)]
  omega
def atR (l : List Nat) (k : Nat) : Int32 := if k < l.length then nI (l.getD k 0) else -1
theorem mg_part {w k : Nat} (hr : RC h B gs cc cl bst) (hw : w < 2) (hk : k < 2 ^ 31) : f_Mg_part G (B 43) (nI w) (nI k) h = some (.inr (some (.int (atR (gs (7 + w)) k))), h) := by
  have hT : okT (nI w) := by constructor <;> rw [nI_toInt (by omega)] <;> omega
  rw [f_Mg_part_eq, tV_of rfl (mg_two hT), if_pos (nI_pos' hk)]
  by_cases h0 : w = 0
  · subst h0
    have g7 := hr.2.1 7 (by omega)
    rw [if_pos (show nI 0 = 0 from rfl), hr.f (v := B 7) rfl, Option.bind_some, cI_of g7.is (gr_at g7 hk)]; rfl
  · have : w = 1 := by omega
    subst this
    have g8 := hr.2.1 8 (by omega)
    rw [if_neg (by decide), hr.f (v := B 8) rfl, Option.bind_some, cI_of g8.is (gr_at g8 hk)]; rfl
end CH
/-- the reference's change -/
def rowL (f : Nat → Int32) (l : List Nat) : Prop := ∀ i : Nat, i < l.length → f i = nI (l.getD i 0)
theorem rowL_snoc {f : Nat → Int32} {l : List Nat} {n : Nat} (h : rowL f l) : rowL (upd f l.length (nI n)) (l ++ [n]) := fun i hi => by
  rw [List.length_append, List.length_singleton] at hi
  simp only [upd]
  rw [List.getD_eq_getElem?_getD]
  by_cases e : i = l.length
  · rw [if_pos e, e, List.getElem?_append_right (Nat.le_refl _)]; simp
  · rw [if_neg e, List.getElem?_append_left (by omega), ← List.getD_eq_getElem?_getD]; exact h i (by omega)
theorem rowL_nil {f : Nat → Int32} : rowL f [] := fun i hi => absurd hi (by simp)
theorem dif1 {a b : List Nat} {k : Nat} (hk : k < a.length) : dif (a.take (k + 1)) b = if a.getD k 0 ∈ b then dif (a.take k) b else dif (a.take k) b ++ [a.getD k 0] := by
  unfold dif
  rw [take1 hk, List.filter_append]
  split
  · rename_i hm
    rw [List.filter_cons_of_neg (by rw [decide_eq_true_eq]; exact fun q => q hm), List.filter_nil, List.append_nil]
  · rename_i hm
    rw [List.filter_cons_of_pos (by rw [decide_eq_true_eq]; exact hm), List.filter_nil]
def moC (S : Nat → Int32) (R : Nat → Nat → Int32) (go co : List Nat) : Prop := S 15 = nI go.length ∧ S 16 = nI co.length ∧ go.length ≤ 30 ∧ co.length ≤ 30 ∧ rowL (R 17) go ∧ rowL (R 18) co
theorem upR_s {R : Nat → Nat → Int32} {j : Nat} {f : Nat → Int32} : upR R j f j = f := if_pos rfl
theorem upR_n {R : Nat → Nat → Int32} {i j : Nat} {f : Nat → Int32} (h : i ≠ j) : upR R j f i = R i := if_neg h
theorem upR_u {R : Nat → Nat → Int32} {j : Nat} {f g : Nat → Int32} : upR (upR R j f) j g = upR R j g := funext fun i => by unfold upR; split <;> rfl
theorem moG_n {R R2 : Nat → Nat → Int32} {gs : Nat → List Nat} (hR : moG R gs) (h1 : R2 1 = R 1) (h2 : R2 2 = R 2) : moG R2 gs := fun i hi => by rw [h1, h2]; exact hR i hi
section MCH
variable {G : Nat} {h : pH} {m : Nat} {A : Nat → Nat} {gs : Nat → List Nat}
theorem mo_change97 {a b : Nat} (hG : 100 ≤ G) (ha : moA h m A) (ha6 : a < 6) (hb6 : b < 6) (hAs : Sm (gs a)) (hBs : Sm (gs b)) :
    ∀ (d F k : Nat) (S : Nat → Int32) (R : Nat → Nat → Int32), d < F → k + d = (gs b).length → moG R gs → S 16 = nI (dif ((gs b).take k) (gs a)).length → rowL (R 18) (dif ((gs b).take k) (gs a)) →
      ∃ (S2 : Nat → Int32) (R2 : Nat → Nat → Int32), f_Mo_change_b97 G F m (nI a) (nI b) (nI k) (moH h m A S R) = some (some (.int (S 15 + nI (dif (gs b) (gs a)).length)), moH h m A S2 R2) ∧ S2 16 = nI (dif (gs b) (gs a)).length ∧ rowL (R2 18) (dif (gs b) (gs a)) ∧ (∀ j, j ≠ 16 → S2 j = S j) ∧ ∀ j, j ≠ 18 → R2 j = R j := by
  intro d
  induction d with
  | zero =>
    intro F k S R hF hk hR hS hL
    obtain ⟨F, rfl⟩ : ∃ F', F = F' + 1 := ⟨F - 1, by omega⟩
    obtain ⟨q1, q2, q3⟩ := hR b hb6
    rw [List.take_of_length_le (by omega)] at hS hL
    refine ⟨S, R, ?_, hS, hL, fun _ _ => rfl, fun _ _ => rfl⟩
    rw [f_Mo_change_b97_eq, mo_g2 ha, Option.bind_some, mo_a2 ha hb6, Option.bind_some, q1, if_pos (nI_le (by omega) (by omega)), mo_g15 ha, Option.bind_some, mo_g16 ha, Option.bind_some, hS]
  | succ d ih =>
    intro F k S R hF hk hR hS hL
    obtain ⟨F, rfl⟩ : ∃ F', F = F' + 1 := ⟨F - 1, by omega⟩
    obtain ⟨q1, q2, q3⟩ := hR b hb6
    have hsm := hBs k (by omega)
    have e1 := dif1 (a := gs b) (b := gs a) (k := k) (by omega)
    have hle : (dif ((gs b).take k) (gs a)).length ≤ k := Nat.le_trans dif_len (by rw [List.length_take]; omega)
    by_cases hm : (gs b).getD k 0 ∈ gs a
    · rw [if_pos hm] at e1
      obtain ⟨S2, R2, b1, b2, b3, b4, b5⟩ := ih F (k + 1) S R (by omega) (by omega) hR (by rw [e1]; exact hS) (by rw [e1]; exact hL)
      refine ⟨S2, R2, ?_, b2, b3, b4, b5⟩
      rw [f_Mo_change_b97_eq, mo_g2 ha, Option.bind_some, mo_a2 ha hb6, Option.bind_some, q1, if_neg (nI_ge (by omega) (by omega)), cI_of (mo_is ha) (mo_numberOf ha hb6 (by omega)), q3 k (by omega), cI_of (mo_is ha) (mo_has (by omega) ha hR ha6 hAs hsm), if_pos hm, if_neg (by decide), f_Mo_change_b146_eq, nI_1, b1]
    · rw [if_neg hm] at e1
      have e2 : upd S 16 (nI ((dif ((gs b).take k) (gs a)).length + 1)) 15 = S 15 := by simp [upd]
      obtain ⟨S2, R2, b1, b2, b3, b4, b5⟩ := ih F (k + 1) (upd S 16 (nI ((dif ((gs b).take k) (gs a)).length + 1))) (upR R 18 (upd (R 18) (dif ((gs b).take k) (gs a)).length (nI ((gs b).getD k 0)))) (by omega) (by omega) (moG_n hR rfl rfl) (by rw [e1, List.length_append]; simp [upd]) (by rw [e1, upR_s]; exact rowL_snoc hL)
      refine ⟨S2, R2, ?_, b2, b3, fun j hj => by rw [b4 j hj]; simp [upd, hj], fun j hj => by rw [b5 j hj, upR_n hj]⟩
      rw [e2] at b1
      rw [f_Mo_change_b97_eq, mo_g2 ha, Option.bind_some, mo_a2 ha hb6, Option.bind_some, q1, if_neg (nI_ge (by omega) (by omega)), cI_of (mo_is ha) (mo_numberOf ha hb6 (by omega)), q3 k (by omega), cI_of (mo_is ha) (mo_has (by omega) ha hR ha6 hAs hsm), if_neg hm, if_pos rfl, mo_g18 ha, Option.bind_some, mo_g16 ha, Option.bind_some, cI_of (mo_is ha) (mo_numberOf ha hb6 (by omega)), q3 k (by omega), hS, mo_s18 ha (by omega), Option.bind_some, mo_g16 ha, Option.bind_some, hS, nI_1, mo_p16 ha, Option.bind_some, f_Mo_change_b146_eq, nI_1, b1]
theorem mo_change40 {a b : Nat} (hG : 100 ≤ G) (ha : moA h m A) (ha6 : a < 6) (hb6 : b < 6) (hAs : Sm (gs a)) (hBs : Sm (gs b)) :
    ∀ (d F k : Nat) (S : Nat → Int32) (R : Nat → Nat → Int32), d < F → k + d = (gs a).length → moG R gs → S 15 = nI (dif ((gs a).take k) (gs b)).length → rowL (R 17) (dif ((gs a).take k) (gs b)) → S 16 = 0 →
      ∃ (S2 : Nat → Int32) (R2 : Nat → Nat → Int32), f_Mo_change_b40 G F m (nI a) (nI b) (nI k) (moH h m A S R) = some (some (.int (nI ((dif (gs a) (gs b)).length + (dif (gs b) (gs a)).length))), moH h m A S2 R2) ∧ moC S2 R2 (dif (gs a) (gs b)) (dif (gs b) (gs a)) ∧ (∀ j, j ≠ 15 → j ≠ 16 → S2 j = S j) ∧ ∀ j, j ≠ 17 → j ≠ 18 → R2 j = R j := by
  intro d
  induction d with
  | zero =>
    intro F k S R hF hk hR hS hL h16
    obtain ⟨F, rfl⟩ : ∃ F', F = F' + 1 := ⟨F - 1, by omega⟩
    obtain ⟨q1, q2, q3⟩ := hR a ha6
    obtain ⟨p1, p2, p3⟩ := hR b hb6
    rw [List.take_of_length_le (by omega)] at hS hL
    obtain ⟨S2, R2, b1, b2, b3, b4, b5⟩ := mo_change97 (G := G) (a := a) (b := b) hG ha ha6 hb6 hAs hBs (gs b).length G 0 S R (by omega) (by omega) hR h16 rowL_nil
    refine ⟨S2, R2, ?_, ⟨by rw [b4 15 (by decide)]; exact hS, b2, Nat.le_trans dif_len q2, Nat.le_trans dif_len p2, by rw [b5 17 (by decide)]; exact hL, b3⟩, fun j _ h2 => b4 j h2, fun j _ h2 => b5 j h2⟩
    rw [hS, nI_add] at b1
    rw [f_Mo_change_b40_eq, mo_g2 ha, Option.bind_some, mo_a2 ha ha6, Option.bind_some, q1, if_pos (nI_le (by omega) (by omega))]
    exact b1
  | succ d ih =>
    intro F k S R hF hk hR hS hL h16
    obtain ⟨F, rfl⟩ : ∃ F', F = F' + 1 := ⟨F - 1, by omega⟩
    obtain ⟨q1, q2, q3⟩ := hR a ha6
    have hsm := hAs k (by omega)
    have e1 := dif1 (a := gs a) (b := gs b) (k := k) (by omega)
    have hle : (dif ((gs a).take k) (gs b)).length ≤ k := Nat.le_trans dif_len (by rw [List.length_take]; omega)
    by_cases hm : (gs a).getD k 0 ∈ gs b
    · rw [if_pos hm] at e1
      obtain ⟨S2, R2, b1, b2, b3, b4⟩ := ih F (k + 1) S R (by omega) (by omega) hR (by rw [e1]; exact hS) (by rw [e1]; exact hL) h16
      refine ⟨S2, R2, ?_, b2, b3, b4⟩
      rw [f_Mo_change_b40_eq, mo_g2 ha, Option.bind_some, mo_a2 ha ha6, Option.bind_some, q1, if_neg (nI_ge (by omega) (by omega)), cI_of (mo_is ha) (mo_numberOf ha ha6 (by omega)), q3 k (by omega), cI_of (mo_is ha) (mo_has (by omega) ha hR hb6 hBs hsm), if_pos hm, if_neg (by decide), f_Mo_change_b89_eq, nI_1, b1]
    · rw [if_neg hm] at e1
      obtain ⟨S2, R2, b1, b2, b3, b4⟩ := ih F (k + 1) (upd S 15 (nI ((dif ((gs a).take k) (gs b)).length + 1))) (upR R 17 (upd (R 17) (dif ((gs a).take k) (gs b)).length (nI ((gs a).getD k 0)))) (by omega) (by omega) (moG_n hR rfl rfl) (by rw [e1, List.length_append]; simp [upd]) (by rw [e1, upR_s]; exact rowL_snoc hL) (by simp [upd]; exact h16)
      refine ⟨S2, R2, ?_, b2, fun j hj h2 => by rw [b3 j hj h2]; simp [upd, hj], fun j hj h2 => by rw [b4 j hj h2, upR_n hj]⟩
      rw [f_Mo_change_b40_eq, mo_g2 ha, Option.bind_some, mo_a2 ha ha6, Option.bind_some, q1, if_neg (nI_ge (by omega) (by omega)), cI_of (mo_is ha) (mo_numberOf ha ha6 (by omega)), q3 k (by omega), cI_of (mo_is ha) (mo_has (by omega) ha hR hb6 hBs hsm), if_neg hm, if_pos rfl, mo_g17 ha, Option.bind_some, mo_g15 ha, Option.bind_some, cI_of (mo_is ha) (mo_numberOf ha ha6 (by omega)), q3 k (by omega), hS, mo_s17 ha (by omega), Option.bind_some, mo_g15 ha, Option.bind_some, hS, nI_1, mo_p15 ha, Option.bind_some, f_Mo_change_b89_eq, nI_1, b1]
variable {S : Nat → Int32} {R : Nat → Nat → Int32}
theorem mo_change_no {a b : Int32} (ha : moA h m A) (hb : ¬ (okG a ∧ okG b)) : f_Mo_change G m a b (moH h m A S R) = some (some (.int 0), moH h m A (upd S 0 1) R) := by
  have e : f_Mo_change_b19 G (f_Mo_change_b20 G) m a b m (moH h m A S R) = some (some (.int 0), moH h m A (upd S 0 1) R) := by
    rw [f_Mo_change_b19_eq, f_Mo_change_b20_eq, cI_of (mo_is ha) (mo_there0 ha), if_pos rfl]
  rw [f_Mo_change_eq, cI_of rfl mo_isGraph]
  by_cases h1 : okG a
  · rw [if_neg (by rw [if_pos h1]; decide), cI_of rfl mo_isGraph, if_pos (by rw [if_neg (fun q => hb ⟨h1, q⟩)]), e]
  · rw [if_pos (by rw [if_neg h1]), e]
theorem mo_change {a b : Nat} (hG : 100 ≤ G) (ha : moA h m A) (hR : moG R gs) (ha6 : a < 6) (hb6 : b < 6) (hAs : Sm (gs a)) (hBs : Sm (gs b)) :
    ∃ (S2 : Nat → Int32) (R2 : Nat → Nat → Int32), f_Mo_change G m (nI a) (nI b) (moH h m A S R) = some (some (.int (nI ((dif (gs a) (gs b)).length + (dif (gs b) (gs a)).length))), moH h m A S2 R2) ∧ moC S2 R2 (dif (gs a) (gs b)) (dif (gs b) (gs a)) ∧ S2 0 = 0 ∧ (∀ j, j ≠ 0 → j ≠ 15 → j ≠ 16 → S2 j = S j) ∧ ∀ j, j ≠ 17 → j ≠ 18 → R2 j = R j := by
  obtain ⟨q1, q2, q3⟩ := hR a ha6
  obtain ⟨S2, R2, b1, b2, b3, b4⟩ := mo_change40 (G := G) (a := a) (b := b) hG ha ha6 hb6 hAs hBs (gs a).length G 0 (upd (upd (upd S 0 0) 15 0) 16 0) R (by omega) (by omega) hR (by simp [upd, dif]; rfl) rowL_nil (by simp [upd])
  refine ⟨S2, R2, ?_, b2, by rw [b3 0 (by decide) (by decide)]; simp [upd], fun j h0 h1 h2 => by rw [b3 j h1 h2]; simp [upd, h0, h1, h2], b4⟩
  rw [f_Mo_change_eq, cI_of rfl mo_isGraph, if_neg (by rw [if_pos (okG_of ha6)]; decide), cI_of rfl mo_isGraph, if_neg (by rw [if_pos (okG_of hb6)]; decide), f_Mo_change_b20_eq, cI_of (mo_is ha) (mo_there1 ha), if_neg (by decide), mo_p15 ha, Option.bind_some, mo_p16 ha, Option.bind_some]
  exact b1
/-- part, of the reference -/
theorem mo_part18 {x1 x2 : Int32} (ha : moA h m A) : f_Mo_part_b18 G (f_Mo_part_b19 G) m x1 x2 m (moH h m A S R) = some (some (.int 0), moH h m A (upd S 0 1) R) := by
  rw [f_Mo_part_b18_eq, f_Mo_part_b19_eq, cI_of (mo_is ha) (mo_there0 ha), if_pos rfl]
theorem mo_part_no {x1 x2 : Int32} (ha : moA h m A) (hn : ¬ (okT x1 ∧ ¬ x2 < 0)) : f_Mo_part G m x1 x2 (moH h m A S R) = some (some (.int 0), moH h m A (upd S 0 1) R) := by
  rw [f_Mo_part_eq]
  by_cases h1 : x1 < 0
  · rw [if_pos h1, mo_part18 ha]
  · rw [if_neg h1]
    by_cases h2 : (1 : Int32) < x1
    · rw [if_pos h2, mo_part18 ha]
    · rw [if_neg h2]
      by_cases h3 : x2 < 0
      · rw [if_pos h3, mo_part18 ha]
      · exfalso
        rw [i_lt0] at h1
        rw [Int32.lt_iff_toInt_lt, show (1 : Int32).toInt = 1 by decide] at h2
        exact hn ⟨⟨by omega, by omega⟩, h3⟩
theorem mo_part {w k : Nat} {go co : List Nat} (ha : moA h m A) (hC : moC S R go co) (hw : w < 2) (hk : k < 2 ^ 31) : f_Mo_part G m (nI w) (nI k) (moH h m A S R) = some (some (.int (atR (if w = 0 then go else co) k)), moH h m A (upd S 0 0) R) := by
  obtain ⟨c1, c2, c3, c4, c5, c6⟩ := hC
  have e15 : upd S 0 0 15 = S 15 := by simp [upd]
  have e16 : upd S 0 0 16 = S 16 := by simp [upd]
  unfold atR
  rw [f_Mo_part_eq, if_neg (nI_pos (by omega)), if_neg (show ¬ (1 : Int32) < nI w from nI_nlt (a := 1) (by omega) (by omega)), if_neg (nI_pos hk), f_Mo_part_b19_eq, cI_of (mo_is ha) (mo_there1 ha), if_neg (by decide)]
  by_cases h0 : w = 0
  · subst h0
    rw [if_pos (show nI 0 = 0 from rfl), mo_g15 ha, Option.bind_some, e15, c1, f_Mo_part_b43_eq, if_pos (show nI 0 = 0 from rfl), if_pos (show 0 = 0 from rfl)]
    by_cases hkl : k < go.length
    · rw [if_pos (nI_lt hkl (by omega)), if_pos hkl, mo_g17 ha, Option.bind_some, mo_a17 ha (by omega), Option.bind_some, c5 k hkl, f_Mo_part_b69_eq]
    · rw [if_neg (nI_nlt (by omega) hk), if_neg hkl, f_Mo_part_b69_eq]
  · have : w = 1 := by omega
    subst this
    rw [if_neg (by decide), mo_g16 ha, Option.bind_some, e16, c2, f_Mo_part_b43_eq, if_neg (show ¬ nI 1 = 0 by decide), if_neg (show ¬ 1 = 0 by decide)]
    by_cases hkl : k < co.length
    · rw [if_pos (nI_lt hkl (by omega)), if_pos hkl, mo_g18 ha, Option.bind_some, mo_a18 ha (by omega), Option.bind_some, c6 k hkl, f_Mo_part_b69_eq]
    · rw [if_neg (nI_nlt (by omega) hk), if_neg hkl, f_Mo_part_b69_eq]
end MCH
