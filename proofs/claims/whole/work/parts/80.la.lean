/-! PURE: the law's state: class and reference side by side -/
theorem RC.keep {h h2 : pH} {B : Nat → Nat} {gs : Nat → List Nat} {cc : Int32} {cl bst : Nat → Int32} {S : Nat → Prop} (hr : RC h B gs cc cl bst) (hc : Ch h h2 S) (hn : ∀ i : Nat, i < 44 → ¬ S (B i)) : RC h2 B gs cc cl bst :=
  ⟨⟨fun i hi => by rw [hc.1]; exact hr.1.1 i hi, hr.1.2⟩, fun i hi => (hr.2.1 i hi).keep hc (hn i (by omega)) (hn (11 + i) (by omega)), hr.2.2.keep (fun i h1 h3 => hc.2 _ (hn i h3))⟩
theorem mo_self {h : pH} {m : Nat} {A : Nat → Nat} {S : Nat → Int32} {R : Nat → Nat → Int32} (h1 : h.2 m = .inr (4, moF A S)) (h2 : ∀ j ∈ moI, h.2 (A j) = .inl (0, moL j, .inl (R j))) : h = moH h m A S R := by
  refine Prod.ext rfl (funext fun x => ?_)
  show h.2 x = if x = m then _ else _
  by_cases hx : x = m
  · rw [if_pos hx, hx]; exact h1
  · rw [if_neg hx]
    cases e : moI.find? (fun j => decide (A j = x)) with
    | none => rfl
    | some j =>
      have hm := List.mem_of_find?_eq_some e
      have hj0 := List.find?_some e
      have hj : A j = x := of_decide_eq_true hj0
      show h.2 x = .inl (0, moL j, .inl (R j))
      rw [← hj]; exact h2 j hm
theorem moA_c {h h2 : pH} {m : Nat} {A : Nat → Nat} (ha : moA h m A) (e : h2.1 = h.1) : moA h2 m A := ⟨by rw [e]; exact ha.1, fun j hj => ⟨by rw [e]; exact (ha.2.1 j hj).1, (ha.2.1 j hj).2⟩, ha.2.2⟩
/-- the cells of class, reference and law are apart -/
def APt (B A : Nat → Nat) (m q2 : Nat) : Prop := (∀ i : Nat, i < 44 → B i ≠ m ∧ B i ≠ q2 ∧ ∀ j ∈ moI, B i ≠ A j) ∧ q2 ≠ m ∧ ∀ j ∈ moI, A j ≠ q2
/-- what is the same on both sides -/
def IV (S : Nat → Int32) (R : Nat → Nat → Int32) (gs : Nat → List Nat) (cc : Int32) (cl bst : Nat → Int32) (CL : List Nat) : Prop :=
  moG R gs ∧ (∀ i : Nat, i < 6 → Asc (gs i) ∧ okL (gs i)) ∧ moC S R (gs 7) (gs 8) ∧ (Asc (gs 7) ∧ okL (gs 7)) ∧ (Asc (gs 8) ∧ okL (gs 8)) ∧ (cc = nI CL.length ∧ rowL cl CL ∧ CL.length ≤ 92 ∧ ∀ n ∈ CL, n < 92) ∧ moK S R CL ∧ CI (gs 10) bst
def SK (S : Nat → Int32) (R : Nat → Nat → Int32) (S2 : Nat → Int32) (R2 : Nat → Nat → Int32) : Prop := S2 12 = S 12 ∧ S2 15 = S 15 ∧ S2 16 = S 16 ∧ R2 13 = R 13 ∧ R2 14 = R 14 ∧ R2 17 = R 17 ∧ R2 18 = R 18
theorem moG_c {R : Nat → Nat → Int32} {gs gs2 : Nat → List Nat} (h : moG R gs) (e : ∀ i, i < 6 → gs2 i = gs i) : moG R gs2 := fun i hi => by rw [e i hi]; exact h i hi
theorem moK_3 {S S2 : Nat → Int32} {R R2 : Nat → Nat → Int32} {L : List Nat} (hK : moK S R L) (h1 : S2 12 = S 12) (h3 : R2 13 = R 13) (h4 : R2 14 = R 14) : moK S2 R2 L := ⟨h1.trans hK.1, by rw [h3]; exact hK.2.1, by rw [h4]; exact hK.2.2⟩
theorem IV.up {S S2 : Nat → Int32} {R R2 : Nat → Nat → Int32} {gs gs2 : Nat → List Nat} {cc : Int32} {cl bst : Nat → Int32} {CL : List Nat} (h : IV S R gs cc cl bst CL) (k : SK S R S2 R2) (hG : moG R2 gs2) (h7 : gs2 7 = gs 7) (h8 : gs2 8 = gs 8) (h10 : gs2 10 = gs 10) (ho : ∀ i : Nat, i < 6 → Asc (gs2 i) ∧ okL (gs2 i)) : IV S2 R2 gs2 cc cl bst CL := by
  obtain ⟨a1, a2, a3, a4, a5, a6, a7, a8⟩ := h
  obtain ⟨k1, k2, k3, k4, k5, k6, k7⟩ := k
  exact ⟨hG, ho, by rw [h7, h8]; exact moC_3 a3 k2 k3 k6 k7, by rw [h7]; exact a4, by rw [h8]; exact a5, a6, moK_3 a7 k1 k4 k5, by rw [h10]; exact a8⟩
def LI (B A : Nat → Nat) (m q2 : Nat) (H : pH) : Prop := ∃ (S : Nat → Int32) (R : Nat → Nat → Int32) (gs : Nat → List Nat) (cc : Int32) (cl bst : Nat → Int32) (CL : List Nat), H = moH H m A S R ∧ moA H m A ∧ RC H B gs cc cl bst ∧ (∃ f : Nat → Int64, H.2 q2 = .inl (1, 1, .inr (.inl f))) ∧ q2 ∈ H.1 ∧ IV S R gs cc cl bst CL
/-- a call: both throw the same, or both answer the same -/
def OPOK (B A : Nat → Nat) (m : Nat) (two : Bool) (tc : pH → Option pT) (tr : pH → Option pR) (S : Nat → Int32) (R : Nat → Nat → Int32) (H : pH) : Prop :=
  (∃ kd : Nat, (kd = 1 ∨ (two = true ∧ kd = 2)) ∧ tc H = some (.inl kd, H) ∧ ∀ h : pH, moA h m A → tr (moH h m A S R) = some (some (.int 0), moH h m A (upd S 0 (nI kd)) R)) ∨
  (∃ (v : Int32) (h2 : pH) (gs2 : Nat → List Nat) (cc2 : Int32) (cl2 bst2 : Nat → Int32) (CL2 : List Nat), tc H = some (.inr (some (.int v)), h2) ∧ Ch H h2 (inB B) ∧ RC h2 B gs2 cc2 cl2 bst2 ∧ ∀ h : pH, moA h m A → ∃ (S2 : Nat → Int32) (R2 : Nat → Nat → Int32), tr (moH h m A S R) = some (some (.int v), moH h m A S2 R2) ∧ S2 0 = 0 ∧ IV S2 R2 gs2 cc2 cl2 bst2 CL2)
section LST
variable {G : Nat} {B A : Nat → Nat} {m q2 : Nat} {H : pH}
theorem inA {x : Nat} (ap : APt B A m q2) (hx : x = m ∨ (∃ j, j ∈ moI ∧ x = A j)) : ¬ inB B x := by
  rintro ⟨i, i1, i2⟩
  rcases hx with q | ⟨j, j1, j2⟩
  · exact (ap.1 i i1).1 (i2 ▸ q)
  · exact (ap.1 i i1).2.2 j j1 (i2 ▸ j2)
theorem la_core {two : Bool} {tc : pH → Option pT} {tr : pH → Option pR} {S : Nat → Int32} {R : Nat → Nat → Int32} {gs : Nat → List Nat} {cc : Int32} {cl bst : Nat → Int32} {CL : List Nat} (ap : APt B A m q2) (e0 : H = moH H m A S R) (ha : moA H m A) (hr : RC H B gs cc cl bst) (ho : ∃ f : Nat → Int64, H.2 q2 = .inl (1, 1, .inr (.inl f))) (hq : q2 ∈ H.1) (iv : IV S R gs cc cl bst CL) (op : OPOK B A m two tc tr S R H) :
    (∃ (kd : Nat) (H2 : pH), (kd = 1 ∨ (two = true ∧ kd = 2)) ∧ tc H = some (.inl kd, H) ∧ tr H = some (some (.int 0), H2) ∧ oC H m 4 = true ∧ oC H2 m 4 = true ∧ f_Mo_thrown G m H2 = some (some (.int (nI kd)), H2) ∧ LI B A m q2 H2) ∨
    (∃ (v : Int32) (h2 : pH), tc H = some (.inr (some (.int v)), h2) ∧ ∀ x : Int64, ∃ h3 H4 : pH, sJ h2 q2 0 x = some h3 ∧ oC h3 m 4 = true ∧ tr h3 = some (some (.int v), H4) ∧ oC H4 m 4 = true ∧ f_Mo_thrown G m H4 = some (some (.int 0), H4) ∧ aJ H4 q2 0 = some x ∧ LI B A m q2 H4) := by
  -- a reference's heap behind another
  have back : ∀ (h3 : pH) (S3 : Nat → Int32) (R3 : Nat → Nat → Int32) (gs3 : Nat → List Nat) (cc3 : Int32) (cl3 bst3 : Nat → Int32) (CL3 : List Nat) (f3 : Nat → Int64), moA h3 m A → RC h3 B gs3 cc3 cl3 bst3 → h3.2 q2 = .inl (1, 1, .inr (.inl f3)) → q2 ∈ h3.1 → IV S3 R3 gs3 cc3 cl3 bst3 CL3 → LI B A m q2 (moH h3 m A S3 R3) ∧ oC (moH h3 m A S3 R3) m 4 = true ∧ f_Mo_thrown G m (moH h3 m A S3 R3) = some (some (.int (S3 0)), moH h3 m A S3 R3) ∧ (moH h3 m A S3 R3).2 q2 = .inl (1, 1, .inr (.inl f3)) := fun h3 S3 R3 gs3 cc3 cl3 bst3 CL3 f3 a3 r3 o3 l3 i3 => by
    have nq : (moH h3 m A S3 R3).2 q2 = .inl (1, 1, .inr (.inl f3)) := by rw [moH_o ap.2.1 (fun j hj => ap.2.2 j hj)]; exact o3
    refine ⟨⟨S3, R3, gs3, cc3, cl3, bst3, CL3, mo_self moH_m (fun j hj => moH_r a3 hj), moA_c a3 rfl, ?_, ⟨f3, nq⟩, l3, i3⟩, mo_is a3, mo_thrown a3, nq⟩
    refine r3.keep (S := fun x => x = m ∨ ∃ j, j ∈ moI ∧ x = A j) ⟨rfl, fun x hx => moH_o (fun q => hx (Or.inl q)) (fun j hj q => hx (Or.inr ⟨j, hj, q.symm⟩))⟩ (fun i hi q => ?_)
    rcases q with q | ⟨j, j1, j2⟩
    · exact (ap.1 i hi).1 q
    · exact (ap.1 i hi).2.2 j j1 j2
  rcases op with ⟨kd, k1, k2, k3⟩ | ⟨v, h2, gs2, cc2, cl2, bst2, CL2, k1, k2, k3, k4⟩
  · obtain ⟨f, hf⟩ := ho
    have iv2 : IV (upd S 0 (nI kd)) R gs cc cl bst CL := iv.up ⟨rfl, rfl, rfl, rfl, rfl, rfl, rfl⟩ iv.1 rfl rfl rfl iv.2.1
    obtain ⟨b1, b2, b3, b4⟩ := back H (upd S 0 (nI kd)) R gs cc cl bst CL f ha hr hf hq iv2
    have k3 := k3 H ha
    rw [← e0] at k3
    have is0 : oC H m 4 = true := by rw [e0]; exact mo_is ha
    refine Or.inl ⟨kd, _, k1, k2, k3, is0, b2, ?_, b1⟩
    rw [b3]
    have e9 : upd S 0 (nI kd) 0 = nI kd := pk_us
    rw [e9]
  · refine Or.inr ⟨v, h2, k1, fun x => ?_⟩
    obtain ⟨f, hf⟩ := ho
    have nB : ¬ inB B q2 := fun ⟨i, i1, i2⟩ => (ap.1 i i1).2.1 i2.symm
    have hf2 : h2.2 q2 = .inl (1, 1, .inr (.inl f)) := by rw [k2.2 q2 nB]; exact hf
    have hq2 : q2 ∈ h2.1 := by rw [k2.1]; exact hq
    have w := sJ_of (i := 0) (x := x) hf2 hq2 (by omega) (by omega)
    have ch3 : Ch h2 (hU h2 q2 (.inl (1, 1, .inr (.inl (vp_updL f 0 x))))) (fun y => y = q2) := Ch.u rfl
    have a3 : moA (hU h2 q2 (.inl (1, 1, .inr (.inl (vp_updL f 0 x))))) m A := moA_c ha k2.1
    have r3 : RC (hU h2 q2 (.inl (1, 1, .inr (.inl (vp_updL f 0 x))))) B gs2 cc2 cl2 bst2 := k3.keep ch3 (fun i hi => (ap.1 i hi).2.1)
    have em : (hU h2 q2 (.inl (1, 1, .inr (.inl (vp_updL f 0 x))))).2 m = .inr (4, moF A S) := by
      rw [hU_n _ _ (fun q => ap.2.1 q.symm), k2.2 m (inA ap (Or.inl rfl)), e0]; exact moH_m
    have ej : ∀ j ∈ moI, (hU h2 q2 (.inl (1, 1, .inr (.inl (vp_updL f 0 x))))).2 (A j) = .inl (0, moL j, .inl (R j)) := fun j hj => by
      rw [hU_n _ _ (ap.2.2 j hj), k2.2 (A j) (inA ap (Or.inr ⟨j, hj, rfl⟩)), e0]; exact moH_r ha hj
    have e3 := mo_self em ej
    obtain ⟨S2, R2, c1, c2, c3⟩ := k4 _ a3
    obtain ⟨b1, b2, b3, b4⟩ := back _ S2 R2 gs2 cc2 cl2 bst2 CL2 _ a3 r3 (hU_s _ _ _) hq2 c3
    rw [← e3] at c1
    rw [c2] at b3
    refine ⟨_, _, w, ?_, c1, b2, b3, ?_, b1⟩
    · rw [e3]; exact mo_is a3
    · have := aJ_of (i := 0) b4 hq2 (by omega) (by omega)
      rw [uL_s] at this
      exact this
/-- a step of the law whose answer is a number -/
theorem la_I {two : Bool} {tc : pH → Option pT} {tr : pH → Option pR} {S : Nat → Int32} {R : Nat → Nat → Int32} {gs : Nat → List Nat} {cc : Int32} {cl bst : Nat → Int32} {CL : List Nat} {q0 : Nat} {c : Nat → pH → Option pR} {K X : pH → Option pR} (ap : APt B A m q2) (e0 : H = moH H m A S R) (ha : moA H m A) (hr : RC H B gs cc cl bst) (ho : ∃ f : Nat → Int64, H.2 q2 = .inl (1, 1, .inr (.inl f))) (hq : q2 ∈ H.1) (iv : IV S R gs cc cl bst CL) (h0 : q0 = B 43) (hc1 : ∀ h, c 1 h = some (some (.int 1), h)) (hc2 : two = true → ∀ h, c 2 h = some (some (.int 2), h)) (op : OPOK B A m two tc tr S R H) :
    ∃ H2 : pH, LI B A m q2 H2 ∧ (cI true (tC (oC H q0 3) (tc H) (fun v15 h9 => (sJ h9 q2 (0 : Int32) (v15).toInt64).bind fun h16 => some (some (.int (0 : Int32)), h16)) c) fun v23 h20 => cI (oC h20 m 4) (tr h20) fun v31 h28 => cI (oC h28 m 4) (f_Mo_thrown G m h28) fun v35 h32 => if v35 = v23 then (if v23 = 0 then ((aJ h32 q2 (0 : Int32)).bind fun v36 => if (lg_cmp v36 (v31).toInt64) = 0 then K h32 else X h32) else K h32) else X h32) = K H2 := by
  subst h0
  rcases la_core (G := G) ap e0 ha hr ho hq iv op with ⟨kd, H2, k1, k2, k3, k4, k5, k6, k7⟩ | ⟨v, h2, k1, k2⟩
  · have ec : c kd H = some (some (.int (nI kd)), H) := by
      rcases k1 with q | ⟨q1, q⟩
      · subst q; exact hc1 H
      · subst q; exact hc2 q1 H
    have nz : ¬ nI kd = 0 := nI_ne0 (by rcases k1 with q | ⟨_, q⟩ <;> omega) (by rcases k1 with q | ⟨_, q⟩ <;> omega)
    refine ⟨H2, k7, ?_⟩
    rw [tC_th hr.is k2, cI_of rfl ec, cI_of k4 k3, cI_of k5 k6, if_pos rfl, if_neg nz]
  · obtain ⟨h3, H4, c1, c2, c3, c4, c5, c6, c7⟩ := k2 v.toInt64
    refine ⟨H4, c7, ?_⟩
    rw [tC_of hr.is k1, c1, Option.bind_some, cI_of rfl rfl, cI_of c2 c3, cI_of c4 c5, if_pos rfl, if_pos rfl, c6, Option.bind_some, if_pos (lg_eq.mpr rfl)]
/-- a step of the law whose answer is yes or no -/
theorem la_B {tc : pH → Option pT} {tr : pH → Option pR} {S : Nat → Int32} {R : Nat → Nat → Int32} {gs : Nat → List Nat} {cc : Int32} {cl bst : Nat → Int32} {CL : List Nat} {q0 : Nat} {c : Nat → pH → Option pR} {K X : pH → Option pR} {k16 : Nat → Int32 → Int64 → pH → Option pR} {k78 : Int64 → Int64 → pH → Option pR} (ap : APt B A m q2) (e0 : H = moH H m A S R) (ha : moA H m A) (hr : RC H B gs cc cl bst) (ho : ∃ f : Nat → Int64, H.2 q2 = .inl (1, 1, .inr (.inl f))) (hq : q2 ∈ H.1) (iv : IV S R gs cc cl bst CL) (h0 : q0 = B 43) (hc1 : ∀ h, c 1 h = some (some (.int 1), h)) (h16 : ∀ x h, k16 q2 0 x h = (sJ h q2 0 x).bind fun h16 => some (some (.int (0 : Int32)), h16)) (h78 : ∀ x y h, k78 x y h = if lg_cmp x y = 0 then K h else X h) (op : OPOK B A m false tc tr S R H) :
    ∃ H2 : pH, LI B A m q2 H2 ∧ (cI true (tC (oC H q0 3) (tc H) (fun v15 h9 => if v15 = 0 then (k16 q2 (0 : Int32) (0 : Int64) h9) else (k16 q2 (0 : Int32) (1 : Int64) h9)) c) fun v23 h20 => cI (oC h20 m 4) (tr h20) fun v31 h28 => cI (oC h28 m 4) (f_Mo_thrown G m h28) fun v35 h32 => if v35 = v23 then (if v23 = 0 then ((aJ h32 q2 (0 : Int32)).bind fun v36 => if v31 = 0 then (k78 v36 (0 : Int64) h32) else (k78 v36 (1 : Int64) h32)) else K h32) else X h32) = K H2 := by
  subst h0
  rcases la_core (G := G) ap e0 ha hr ho hq iv op with ⟨kd, H2, k1, k2, k3, k4, k5, k6, k7⟩ | ⟨v, h2, k1, k2⟩
  · have e1 : kd = 1 := by
      rcases k1 with q | ⟨q1, _⟩
      · exact q
      · cases q1
    subst e1
    refine ⟨H2, k7, ?_⟩
    rw [tC_th hr.is k2, cI_of rfl (hc1 H), cI_of k4 k3, cI_of k5 k6, if_pos (show nI 1 = (1 : Int32) from rfl), if_neg (show ¬ (1 : Int32) = 0 by decide)]
  · by_cases hv : v = 0
    · obtain ⟨h3, H4, c1, c2, c3, c4, c5, c6, c7⟩ := k2 0
      refine ⟨H4, c7, ?_⟩
      rw [tC_of hr.is k1, if_pos hv, h16, c1, Option.bind_some, cI_of rfl rfl, cI_of c2 c3, cI_of c4 c5, if_pos rfl, if_pos rfl, c6, Option.bind_some, if_pos hv, h78, if_pos (lg_eq.mpr rfl)]
    · obtain ⟨h3, H4, c1, c2, c3, c4, c5, c6, c7⟩ := k2 1
      refine ⟨H4, c7, ?_⟩
      rw [tC_of hr.is k1, if_neg hv, h16, c1, Option.bind_some, cI_of rfl rfl, cI_of c2 c3, cI_of c4 c5, if_pos rfl, if_pos rfl, c6, Option.bind_some, if_neg hv, h78, if_pos (lg_eq.mpr rfl)]
end LST
