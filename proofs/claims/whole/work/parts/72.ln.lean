/-! PURE: when a row of terms makes fewer facts -/
theorem addP_inj {r : Nat → Nat} : ∀ (L g : List Nat), Asc g → ((addP (fun _ => true) r g L).length = g.length + L.length ↔ (∀ n ∈ L, r n ∉ g) ∧ L.Pairwise (fun a b => r a ≠ r b)) := by
  intro L
  induction L with
  | nil => intro g _; exact ⟨fun _ => ⟨fun n hn => absurd hn List.not_mem_nil, List.Pairwise.nil⟩, fun _ => rfl⟩
  | cons n L ih =>
    intro g hg
    have e : addP (fun _ => true) r g (n :: L) = addP (fun _ => true) r (gIns (r n) g) L := rfl
    rw [e, List.length_cons, List.pairwise_cons]
    by_cases hm : r n ∈ g
    · have h1 := addP_len1 (p := fun _ => true) (r := r) L g hg
      rw [gIns_id hg hm]
      exact ⟨fun q => absurd q (by omega), fun q => absurd hm (q.1 n List.mem_cons_self)⟩
    · have h2 := ih (gIns (r n) g) (gIns_asc hg)
      rw [gIns_len hg hm] at h2
      rw [show g.length + (L.length + 1) = g.length + 1 + L.length by omega, h2]
      constructor
      · rintro ⟨q1, q2⟩
        refine ⟨fun k hk => ?_, fun k hk => ?_, q2⟩
        · rcases List.mem_cons.mp hk with q | q
          · subst q; exact hm
          · exact fun x => q1 k q (gIns_mem.mpr (Or.inl x))
        · exact fun x => q1 k hk (gIns_mem.mpr (Or.inr x.symm))
      · rintro ⟨q1, q2, q3⟩
        refine ⟨fun k hk x => ?_, q3⟩
        rcases gIns_mem.mp x with q | q
        · exact q1 k (List.mem_cons_of_mem _ hk) q
        · exact q2 k hk q.symm
theorem pw_inj {r : Nat → Nat} {L : List Nat} (hA : Asc L) : L.Pairwise (fun a b => r a ≠ r b) ↔ ∀ a ∈ L, ∀ b ∈ L, r a = r b → a = b := by
  constructor
  · intro h a ha b hb e
    obtain ⟨i, i1, i2⟩ := List.getElem_of_mem ha
    obtain ⟨j, j1, j2⟩ := List.getElem_of_mem hb
    have hp := List.pairwise_iff_getElem.mp h
    rcases Nat.lt_trichotomy i j with q | q | q
    · exact absurd e (by rw [← i2, ← j2]; exact hp i j i1 j1 q)
    · subst q; rw [← i2, ← j2]
    · exact absurd e.symm (by rw [← i2, ← j2]; exact hp j i j1 i1 q)
  · intro h
    refine (asc_pw.mp hA).imp_of_mem ?_
    intro a b ha hb hlt e
    have := h a ha b hb e
    omega
theorem asc_same {l a : List Nat} (hl : Asc l) (ha : Asc a) (h : ∀ n ∈ l, n ∈ a) (he : a.length ≤ l.length) : l = a := by
  have e : l = a.filter (fun n => decide (n ∈ l)) := asc_ext hl (asc_filter _ ha) fun m => by
    rw [List.mem_filter, decide_eq_true_eq]; exact ⟨fun q => ⟨h m q, q⟩, fun q => q.2⟩
  have h1 : (a.filter (fun n => decide (n ∈ l))).length = a.length := by
    have := List.length_filter_le (fun n => decide (n ∈ l)) a
    rw [← e] at this ⊢
    omega
  have h2 := List.length_filter_eq_length_iff.mp h1
  exact asc_ext hl ha fun m => ⟨h m, fun q => of_decide_eq_true (h2 m q)⟩
/-- the set of terms without one -/
def opX (P : List Nat) (x : Nat) : Int64 := tms P &&& (bt x ^^^ (-1 : Int64))
theorem tb_opX {P : List Nat} {x t : Nat} (hP : okL P) (hx : x < 46) : tb (opX P x) t = true ↔ stb 2 P t = true ∧ t ≠ x := by
  unfold opX
  rcases Nat.lt_or_ge t 64 with q | q
  · rw [tb_and, tb_m1 _ q, tb_tms hP, tb_bt (by omega), Bool.and_eq_true, Bool.not_eq_true', decide_eq_false_iff_not]
  · rw [tb_ge _ q]
    exact ⟨fun h => (by cases h), fun h => absurd (stb_lt hP h.1) (by omega)⟩
theorem img_sub {P : List Nat} {ρ : Nat → Nat} (h : ∀ n ∈ P, ren ρ n ∈ P) : ∀ m ∈ addP (fun _ => true) (ren ρ) [] P, m ∈ P := fun m hm => by
  rcases (addP_mem _ _).mp hm with q | ⟨n, h1, _, h3⟩
  · exact absurd q List.not_mem_nil
  · rw [← h3]; exact h n h1
/-- fewer facts just if a node is put for none -/
theorem fewer {P : List Nat} {ρ : Nat → Nat} (hA : Asc P) (hP : okL P) (h : FSg P P P (tms P) false ρ) : (addP (fun _ => true) (ren ρ) [] P).length < P.length ↔ ∃ x, x ∈ ndL P ∧ ∀ y ∈ ndL P, ρ (y - 40) ≠ x := by
  have hv : ∀ t, 40 ≤ t → stb 2 P t = true → stb 2 P (ρ (t - 40)) = true := fun t h40 ht => by
    have h46 := stb_lt hP ht
    have := h.1 (t - 40) (by omega) (by rw [show 40 + (t - 40) = t by omega]; exact ht)
    rw [tb_tms hP] at this
    exact this
  have h46 : ∀ t, stb 2 P t = true → tr ρ t < 46 := fun t ht => by
    have h1 := stb_lt hP ht
    unfold tr
    split
    · rename_i q; exact stb_lt hP (hv t q.1 ht)
    · exact h1
  constructor
  · intro hlt
    refine Classical.byContradiction fun hn => ?_
    have hall : ∀ x ∈ ndL P, ∃ y ∈ ndL P, ρ (y - 40) = x := fun x hx => Classical.byContradiction fun q => hn ⟨x, hx, fun y hy e => q ⟨y, hy, e⟩⟩
    -- the nodes change places
    have aI : Asc (addP (fun _ => true) (fun t => ρ (t - 40)) [] (ndL P)) := addP_asc _ _ asc_nil
    have sub : ∀ x ∈ ndL P, x ∈ addP (fun _ => true) (fun t => ρ (t - 40)) [] (ndL P) := fun x hx => by
      obtain ⟨y, y1, y2⟩ := hall x hx
      exact (addP_mem _ _).mpr (Or.inr ⟨y, y1, rfl, y2⟩)
    have l1 := asc_sub ndL_asc aI sub
    have l2 := addP_len1 (p := fun _ => true) (r := fun t => ρ (t - 40)) (ndL P) [] asc_nil
    rw [List.length_nil] at l2
    have inj := (pw_inj (r := fun t => ρ (t - 40)) ndL_asc).mp ((addP_inj (r := fun t => ρ (t - 40)) (ndL P) [] asc_nil).mp (by rw [List.length_nil]; omega)).2
    have same := asc_same ndL_asc aI sub (by omega)
    have im : ∀ t ∈ ndL P, ρ (t - 40) ∈ ndL P := fun t ht => by
      rw [same]; exact (addP_mem _ _).mpr (Or.inr ⟨t, ht, rfl, rfl⟩)
    have nd : ∀ t, 40 ≤ t → stb 2 P t = true → t ∈ ndL P := fun t h40 ht => ndL_mem.mpr ⟨⟨h40, stb_lt hP ht⟩, ht⟩
    -- so facts stay apart
    have tinj : ∀ s t, stb 2 P s = true → stb 2 P t = true → tr ρ s = tr ρ t → s = t := fun s t hs ht e => by
      have s46 := stb_lt hP hs
      have t46 := stb_lt hP ht
      unfold tr at e
      by_cases q1 : 40 ≤ s
      · rw [if_pos ⟨q1, s46⟩] at e
        have n1 := (ndL_mem.mp (im s (nd s q1 hs))).1
        by_cases q2 : 40 ≤ t
        · rw [if_pos ⟨q2, t46⟩] at e
          exact inj s (nd s q1 hs) t (nd t q2 ht) e
        · rw [if_neg (fun x => q2 x.1)] at e; omega
      · rw [if_neg (fun x => q1 x.1)] at e
        by_cases q2 : 40 ≤ t
        · rw [if_pos ⟨q2, t46⟩] at e
          have n1 := (ndL_mem.mp (im t (nd t q2 ht))).1
          omega
        · rw [if_neg (fun x => q2 x.1)] at e; exact e
    have rinj : ∀ a ∈ P, ∀ b ∈ P, ren ρ a = ren ρ b → a = b := fun a ha b hb e => by
      obtain ⟨a1, a2, a3⟩ := ren_p (ρ := ρ) (n := a) (by have := h46 _ (st_o ha); omega)
      obtain ⟨b1, b2, b3⟩ := ren_p (ρ := ρ) (n := b) (by have := h46 _ (st_o hb); omega)
      rw [e] at a1 a2 a3
      have e1 := tinj _ _ (st_s ha) (st_s hb) (a1.symm.trans b1)
      have e2 : a / 64 % 64 = b / 64 % 64 := a2.symm.trans b2
      have e3 := tinj _ _ (st_o ha) (st_o hb) (a3.symm.trans b3)
      omega
    have := (addP_inj (r := ren ρ) P [] asc_nil).mpr ⟨fun n hn => List.not_mem_nil, (pw_inj hA).mpr rinj⟩
    rw [List.length_nil] at this
    omega
  · rintro ⟨x, hx, hno⟩
    obtain ⟨⟨x40, x46⟩, xs⟩ := ndL_mem.mp hx
    obtain ⟨n0, m1, m2⟩ := stb2.mp xs
    have notin : n0 ∉ addP (fun _ => true) (ren ρ) [] P := fun q => by
      rcases (addP_mem _ _).mp q with q | ⟨n, h1, _, h3⟩
      · exact absurd q List.not_mem_nil
      · have tx : ∀ t, stb 2 P t = true → tr ρ t ≠ x := fun t ht => by
          have t46 := stb_lt hP ht
          unfold tr
          by_cases q1 : 40 ≤ t
          · rw [if_pos ⟨q1, t46⟩]; exact hno t (ndL_mem.mpr ⟨⟨q1, t46⟩, ht⟩)
          · rw [if_neg (fun x => q1 x.1)]; omega
        obtain ⟨a1, a2, a3⟩ := ren_p (ρ := ρ) (n := n) (by have := h46 _ (st_o h1); omega)
        rw [h3] at a1 a3
        rcases m2 with q | q
        · exact tx _ (st_s h1) (a1.symm.trans q)
        · exact tx _ (st_o h1) (a3.symm.trans q)
    have h1 := asc_sub (addP_asc (p := fun _ => true) (r := ren ρ) P [] asc_nil) (gDel_asc (n := n0) hA) (fun m hm => gDel_mem.mpr ⟨img_sub h.2.1 m hm, fun q => notin (q ▸ hm)⟩)
    have h2 : (gDel n0 P).length < P.length := by
      have h3 := gDel_len (n := n0) (g := P)
      rcases Nat.lt_or_ge (gDel n0 P).length P.length with q | q
      · exact q
      · have := asc_same (gDel_asc (n := n0) hA) hA (fun m hm => (gDel_mem.mp hm).1) q
        rw [← this] at m1
        exact absurd rfl (gDel_mem.mp m1).2
    omega
theorem fs3_2 {P : List Nat} {ρ : Nat → Nat} (hA : Asc P) (hP : okL P) : FS3 P P 2 ρ ↔ ∃ x, x ∈ ndL P ∧ FSg P P P (opX P x) false ρ := by
  have nx : ∀ x, x ∈ ndL P → x < 46 := fun x hx => (ndL_mem.mp hx).1.2
  constructor
  · rintro ⟨h1, h2⟩
    have h1 : FSg P P P (tms P) false ρ := h1
    obtain ⟨x, hx, hno⟩ := (fewer hA hP h1).mp (h2 rfl)
    refine ⟨x, hx, fun i hi hs => (tb_opX hP (nx x hx)).mpr ⟨?_, ?_⟩, h1.2.1, fun q => (by cases q)⟩
    · have := h1.1 i hi hs
      rw [tb_tms hP] at this; exact this
    · have := hno (40 + i) (ndL_mem.mpr ⟨⟨by omega, by omega⟩, hs⟩)
      rw [show 40 + i - 40 = i by omega] at this
      exact this
  · rintro ⟨x, hx, h1, h2, h3⟩
    have hg : FSg P P P (tms P) false ρ := ⟨fun i hi hs => by rw [tb_tms hP]; exact ((tb_opX hP (nx x hx)).mp (h1 i hi hs)).1, h2, fun q => (by cases q)⟩
    refine ⟨hg, fun _ => (fewer hA hP hg).mpr ⟨x, hx, fun y hy => ?_⟩⟩
    have hy2 := ndL_mem.mp hy
    exact ((tb_opX hP (nx x hx)).mp (h1 (y - 40) (by omega) (by rw [show 40 + (y - 40) = y by omega]; exact hy2.2))).2
/-- order of rows -/
def lexLE (P : List Nat) (ρ σ : Nat → Nat) : Prop := ∀ i : Nat, i < 6 → (∀ j : Nat, j < i → stb 2 P (40 + j) = true → σ j = ρ j) → stb 2 P (40 + i) = true → ρ i ≤ σ i
theorem lexLE.tr {P : List Nat} {a b c : Nat → Nat} (h1 : lexLE P a b) (h2 : lexLE P b c) : lexLE P a c := by
  intro i hi hag hs
  have e : ∀ n j : Nat, j < n → j < i → stb 2 P (40 + j) = true → b j = a j := by
    intro n
    induction n with
    | zero => intro j hj; omega
    | succ n ih =>
      intro j hj hji hsj
      have q1 := h1 j (by omega) (fun k hk hsk => ih k (by omega) (by omega) hsk) hsj
      have q2 := h2 j (by omega) (fun k hk hsk => by rw [hag k (by omega) hsk, ih k (by omega) (by omega) hsk]) hsj
      have q3 := hag j hji hsj
      omega
  have q1 := h1 i hi (fun k hk hsk => e i k hk hk hsk) hs
  have q2 := h2 i hi (fun k hk hsk => by rw [hag k hk hsk, e i k hk hk hsk]) hs
  omega
theorem lexLE.rf {P : List Nat} {a : Nat → Nat} : lexLE P a a := fun _ _ _ _ => Nat.le_refl _
section ISB
variable {G : Nat} {h : pH} {P : List Nat} {ρ σ : Nat → Nat} {f g : Nat → Int32} {x y : Nat}
theorem mg_isBefore (hG : 100 ≤ G) (hx : h.2 x = .inl (0, 6, .inl f)) (hxl : x ∈ h.1) (hy : h.2 y = .inl (0, 6, .inl g)) (hyl : y ∈ h.1) (hf : rowX f ρ P) (hg : rowX g σ P) (r46 : ∀ i, i < 6 → stb 2 P (40 + i) = true → ρ i < 46 ∧ σ i < 46) :
    ∃ b : Bool, f_Mg_isBefore G x y 6 h = some (some (.int (bI b)), h) ∧ (b = true → lexLE P ρ σ) ∧ (b = false → lexLE P σ ρ) := by
  have lp : ∀ (d F i : Nat), d < F → i + d = 6 → (∀ j, j < i → stb 2 P (40 + j) = true → ρ j = σ j) → ∃ b : Bool, f_Mg_isBefore_b2 G F x y 6 (nI i) h = some (some (.int (bI b)), h) ∧ (b = true → lexLE P ρ σ) ∧ (b = false → lexLE P σ ρ) := by
    intro d
    induction d with
    | zero =>
      intro F i hF hi he
      obtain ⟨F, rfl⟩ : ∃ F', F = F' + 1 := ⟨F - 1, by omega⟩
      have : i = 6 := by omega
      subst this
      refine ⟨false, by rw [f_Mg_isBefore_b2_eq, if_pos (by decide), f_Mg_isBefore_b49_eq]; rfl, fun q => (by cases q), fun _ k hk _ hs => ?_⟩
      rw [he k hk hs]; exact Nat.le_refl _
    | succ d ih =>
      intro F i hF hi he
      obtain ⟨F, rfl⟩ : ∃ F', F = F' + 1 := ⟨F - 1, by omega⟩
      have st : f_Mg_isBefore_b2 G (F + 1) x y 6 (nI i) h = if f i = g i then f_Mg_isBefore_b2 G F x y 6 (nI i + 1) h else if g i ≤ f i then f_Mg_isBefore_b42 G 0 h else f_Mg_isBefore_b42 G 1 h := by
        rw [f_Mg_isBefore_b2_eq, if_neg (show ¬ (6 : Int32) ≤ nI i from nI_ge (b := 6) (by omega) (by omega)), aL_of hx hxl, Option.bind_some, if_neg (show ¬ nI 6 ≤ nI i from nI_ge (by omega) (by omega)), aL_of hy hyl, Option.bind_some, if_neg (show ¬ nI 6 ≤ nI i from nI_ge (by omega) (by omega)), aI_of hx hxl (by omega) (by omega), Option.bind_some, aI_of hy hyl (by omega) (by omega), Option.bind_some, Option.bind_some, Option.bind_some]
      rw [st, hf i (by omega), hg i (by omega)]
      by_cases hs : stb 2 P (40 + i) = true
      · rw [if_pos hs, if_pos hs]
        have r := r46 i (by omega) hs
        by_cases q : ρ i = σ i
        · rw [if_pos (by rw [q]), nI_1]
          exact ih F (i + 1) (by omega) (by omega) (fun j hj hsj => by
            rcases Nat.lt_or_ge j i with q2 | q2
            · exact he j q2 hsj
            · rw [show j = i by omega]; exact q)
        · rw [if_neg (fun e => q ((nI_eq (by omega) (by omega)).mp e))]
          by_cases q2 : σ i ≤ ρ i
          · rw [if_pos (nI_le q2 (by omega)), f_Mg_isBefore_b42_eq]
            refine ⟨false, rfl, fun q => (by cases q), fun _ k hk hag hsk => ?_⟩
            rcases Nat.lt_trichotomy k i with q3 | q3 | q3
            · rw [he k q3 hsk]; exact Nat.le_refl _
            · subst q3; exact q2
            · exact absurd (hag i q3 hs) q
          · rw [if_neg (nI_ge (by omega) (by omega)), f_Mg_isBefore_b42_eq]
            refine ⟨true, rfl, fun _ k hk hag hsk => ?_, fun q => (by cases q)⟩
            rcases Nat.lt_trichotomy k i with q3 | q3 | q3
            · rw [he k q3 hsk]; exact Nat.le_refl _
            · subst q3; omega
            · exact absurd (hag i q3 hs).symm q
      · rw [if_neg hs, if_neg hs, if_pos rfl, nI_1]
        exact ih F (i + 1) (by omega) (by omega) (fun j hj hsj => by
          rcases Nat.lt_or_ge j i with q2 | q2
          · exact he j q2 hsj
          · rw [show j = i by omega] at hsj; exact absurd hsj hs)
  rw [f_Mg_isBefore_eq]
  exact lp 6 G 0 (by omega) (by omega) (fun j hj => absurd hj (by omega))
end ISB
