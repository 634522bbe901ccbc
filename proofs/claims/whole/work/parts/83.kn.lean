/-! PURE: what is made: cells by the number of their making, apart, with known contents -/
def kU {α : Type} (f : Nat → α) (k : Nat) (v : α) : Nat → α := fun j => cond (Nat.beq j k) v (f j)
theorem kU_s {α : Type} (f : Nat → α) (k : Nat) (v : α) : kU f k v k = v := by
  have e : Nat.beq k k = true := Nat.beq_refl k
  unfold kU; rw [e]; rfl
theorem kU_n {α : Type} (f : Nat → α) {k j : Nat} (v : α) (h : j ≠ k) : kU f k v j = f j := by
  have e : Nat.beq j k = false := by
    cases q : Nat.beq j k with
    | false => rfl
    | true => exact absurd (Nat.eq_of_beq_eq_true q) h
  unfold kU; rw [e]; rfl
def KN (h : pH) (n : Nat) (a : Nat → Nat) (c : Nat → pE) : Prop := (∀ i : Nat, i < n → a i ∈ h.1 ∧ h.2 (a i) = c i) ∧ ∀ i j : Nat, i < n → j < n → a i = a j → i = j
section KNS
variable {h : pH} {n : Nat} {a : Nat → Nat} {c : Nat → pE}
theorem kn_new {q : Nat} (k : KN h n a c) (hq : q ∉ h.1) (e : pE) : KN (hN h q e) (n + 1) (kU a n q) (kU c n e) := by
  have hm : ∀ i, i < n → a i ≠ q := fun i hi w => hq (w ▸ (k.1 i hi).1)
  refine ⟨fun i hi => ?_, fun i j hi hj w => ?_⟩
  · by_cases e9 : i = n
    · subst e9
      rw [kU_s, kU_s]
      exact ⟨List.mem_append.mpr (Or.inr (List.mem_singleton.mpr rfl)), va_up_self _ _ _⟩
    · rw [kU_n _ _ e9, kU_n _ _ e9]
      refine ⟨List.mem_append.mpr (Or.inl (k.1 i (by omega)).1), ?_⟩
      exact (va_up_ne _ _ (hm i (by omega))).trans (k.1 i (by omega)).2
  · by_cases e1 : i = n
    · by_cases e2 : j = n
      · omega
      · subst e1
        rw [kU_s, kU_n _ _ e2] at w
        exact absurd w.symm (hm j (by omega))
    · by_cases e2 : j = n
      · subst e2
        rw [kU_s, kU_n _ _ e1] at w
        exact absurd w (hm i (by omega))
      · rw [kU_n _ _ e1, kU_n _ _ e2] at w
        exact k.2 i j (by omega) (by omega) w
theorem kn_set {i : Nat} (k : KN h n a c) (hi : i < n) (e : pE) : KN (hU h (a i) e) n a (kU c i e) := by
  refine ⟨fun j hj => ⟨(k.1 j hj).1, ?_⟩, k.2⟩
  by_cases e9 : j = i
  · subst e9; rw [kU_s]; exact hU_s _ _ _
  · rw [kU_n _ _ e9, hU_n _ _ (fun w => e9 (k.2 j i hj hi w))]
    exact (k.1 j hj).2
/-- a field is put -/
theorem kn_put {P : pH → Prop} {ci j : Nat} {v : Value} (k : KN h n a c) (i : Nat) (fs fs2 : List Value) {x0 : Nat} (hx : a i = x0) (hi : i < n) (hc : c i = .inr (ci, fs)) (hj : j < fs.length) (h9 : fs.set j v = fs2) (K : ∀ h3 : pH, KN h3 n a (kU c i (.inr (ci, fs2))) → P h3) : ∃ h3, oP h x0 ci j v = some h3 ∧ P h3 := by
  subst hx; subst h9
  exact ⟨_, oP_of ((k.1 i hi).2.trans hc) (k.1 i hi).1 hj, K _ (kn_set k hi _)⟩
/-- a field is given something new -/
theorem kn_field {P : Nat → pH → Prop} {ci j : Nat} {e : pE} (k : KN h n a c) (n2 i : Nat) (fs : List Value) (fs2 : Nat → List Value) {x0 : Nat} (h2 : n + 1 = n2) (hx : a i = x0) (hi : i < n) (hc : c i = .inr (ci, fs)) (hj : j < fs.length) (h9 : ∀ q, fs.set j (.ref q) = fs2 q) (K : ∀ (q : Nat) (h3 : pH), KN h3 n2 (kU a n q) (kU (kU c n e) i (.inr (ci, fs2 q))) → P q h3) : ∀ q : Nat, q ∉ h.1 → ∃ h3, oP (hN h q e) x0 ci j (.ref q) = some h3 ∧ P q h3 := by
  intro q hq
  subst h2
  have k2 := kn_new k hq e
  have hn : i ≠ n := by omega
  exact kn_put k2 i fs (fs2 q) ((kU_n _ _ hn).trans hx) (by omega) ((kU_n _ _ hn).trans hc) hj (h9 q) (fun h3 k3 => K q h3 k3)
/-- a new Graph -/
theorem kn_graph {P : Nat → pH → Prop} (k : KN h n a c) (n1 n2 : Nat) (e1 : n + 1 = n1) (e2 : n + 2 = n2) (K : ∀ (q r : Nat) (h7 : pH), KN h7 n2 (kU (kU a n q) n1 r) (kU (kU c n (.inr (0, [.ref r, .int 0]))) n1 (.inl (0, 30, .inl (fun _ => 0)))) → P q h7) : ∀ q : Nat, q ∉ h.1 → p_Gr_init q (hN h q (.inr (0, [.null, .int 0]))) (fun rc => ∃ h7, rc = (none, h7) ∧ P q h7) := by
  intro q hq
  subst e1; subst e2
  have k2 := kn_new k hq (.inr (0, [.null, .int 0]))
  intro r hr
  have k3 := kn_new k2 hr (.inl (0, 30, .inl (fun _ => 0)))
  refine kn_put k3 n [.null, .int 0] [.ref r, .int 0] (by rw [kU_n _ _ (by omega), kU_s]) (by omega) (by rw [kU_n _ _ (by omega), kU_s]) (by decide) rfl (fun h3 k4 => ?_)
  refine kn_put k4 n [.ref r, .int 0] [.ref r, .int 0] (by rw [kU_n _ _ (by omega), kU_s]) (by omega) (by rw [kU_s]) (Nat.lt_succ_self 1) rfl (fun h5 k5 => ?_)
  refine ⟨h5, rfl, K q r h5 ⟨fun i hi => ?_, k5.2⟩⟩
  refine ⟨(k5.1 i hi).1, (k5.1 i hi).2.trans ?_⟩
  by_cases e9 : i = n
  · subst e9
    rw [kU_s, kU_n _ _ (by omega), kU_s]
  · rw [kU_n _ _ e9, kU_n _ _ e9]
    by_cases e8 : i = n + 1
    · subst e8; rw [kU_s, kU_s]
    · rw [kU_n _ _ e8, kU_n _ _ e8, kU_n _ _ e9, kU_n _ _ e9]
/-- a reference is read -/
theorem kn_get {P : Nat → Prop} {ci j v : Nat} (k : KN h n a c) (i : Nat) (fs : List Value) {x0 : Nat} (hx : a i = x0) (hi : i < n) (hc : c i = .inr (ci, fs)) (hj : fs[j]? = some (.ref v)) (K : P v) : ∃ w, gR h x0 ci j = some w ∧ P w := by
  subst hx
  exact ⟨v, gR_of ((k.1 i hi).2.trans hc) (k.1 i hi).1 hj, K⟩
/-- a Graph is put into the array -/
theorem kn_arr {P : pH → Prop} {i : Nat} {x v : Nat} {y : Int32} (k : KN h n a c) (f : Nat → Option Nat) (t j : Nat) (fs : List Value) (hy : y = nI j) (hx : a i = x) (hi : i < n) (hc : c i = .inl (2, 6, .inr (.inr (.inr (.inr f))))) (hj : j < 6) (hv : a t = v) (ht : t < n) (hg : c t = .inr (0, fs)) (K : ∀ h3 : pH, KN h3 n a (kU c i (.inl (2, 6, .inr (.inr (.inr (.inr (va_up f j (some v)))))))) → P h3) : ∃ h3, sR h x y v = some h3 ∧ P h3 := by
  subst hx; subst hv; subst hy
  have hC : oC h (a t) 0 = true := oC_of ((k.1 t ht).2.trans hg) (k.1 t ht).1
  refine ⟨_, ?_, K _ (kn_set k hi _)⟩
  simp [sR, oA, (k.1 i hi).1, (k.1 i hi).2.trans hc, vin_nI hj (by omega), nI_clamp (show j < 2 ^ 31 by omega), hC, hU]
/-- seven rows, and the array that holds them -/
theorem vr_snoc {α : Type} (f : Nat → α) (l : List Nat) (b : Nat) (v : α) : vr_up f (l ++ [b]) v = va_up (vr_up f l v) b v := by
  funext x
  show (if x ∈ l ++ [b] then v else f x) = if x = b then v else (if x ∈ l then v else f x)
  by_cases h1 : x = b
  · rw [if_pos h1, if_pos (List.mem_append.mpr (Or.inr (List.mem_singleton.mpr h1)))]
  · rw [if_neg h1]
    by_cases h2 : x ∈ l
    · rw [if_pos h2, if_pos (List.mem_append.mpr (Or.inl h2))]
    · rw [if_neg h2, if_neg]
      intro w
      rcases List.mem_append.mp w with w | w
      · exact h2 w
      · exact h1 (List.mem_singleton.mp w)
theorem nm_snoc {l : List Nat} {x y : Nat} (h1 : x ∉ l) (h2 : x ≠ y) : x ∉ l ++ [y] := fun w => by
  rcases List.mem_append.mp w with w | w
  · exact h1 w
  · exact h2 (List.mem_singleton.mp w)
theorem kn_rows {P : Nat → (Nat → Nat) → pH → Prop} (k : KN h 14 a c) (i : Nat) (fs : List Value) (fs2 : Nat → List Value) {x0 : Nat} (hx : a i = x0) (hi : i < 14) (hc : c i = .inr (1, fs)) (hj : 4 < fs.length) (h9 : ∀ q, fs.set 4 (.ref q) = fs2 q)
    (K : ∀ (q : Nat) (r : Nat → Nat) (h3 : pH), KN h3 22 (kU (kU (kU (kU (kU (kU (kU (kU a 14 (r 0)) 15 (r 1)) 16 (r 2)) 17 (r 3)) 18 (r 4)) 19 (r 5)) 20 (r 6)) 21 q) (kU (kU (kU (kU (kU (kU (kU (kU (kU c 14 (.inl (1, 6, .inr (.inl (fun _ => 0))))) 15 (.inl (1, 6, .inr (.inl (fun _ => 0))))) 16 (.inl (1, 6, .inr (.inl (fun _ => 0))))) 17 (.inl (1, 6, .inr (.inl (fun _ => 0))))) 18 (.inl (1, 6, .inr (.inl (fun _ => 0))))) 19 (.inl (1, 6, .inr (.inl (fun _ => 0))))) 20 (.inl (1, 6, .inr (.inl (fun _ => 0))))) 21 (.inl (3, 7, .inr (.inr (.inr (.inr (fun i => if i < 7 then some (r i) else none))))))) i (.inr (1, fs2 q))) → P q r h3) :
    ∀ (q : Nat) (r : Nat → Nat), q ∉ h.1 → (∀ i j : Nat, i < 7 → j < 7 → r i = r j → i = j) → (∀ i : Nat, i < 7 → r i ∉ h.1 ∧ r i ≠ q) → ∃ h19, oP (h.1 ++ (List.range 7).map r ++ [q], va_up (vr_up h.2 ((List.range 7).map r) (.inl (1, 6, .inr (.inl (fun _ => 0))))) q (.inl (3, 7, .inr (.inr (.inr (.inr (fun i => if i < 7 then some (r i) else none))))))) x0 1 4 (.ref q) = some h19 ∧ P q r h19 := by
  intro q r hq hr hs
  have ne : ∀ i j : Nat, i < 7 → j < 7 → i ≠ j → r i ≠ r j := fun i j hi hj hn w => hn (hr i j hi hj w)
  have k1 := kn_new k (hs 0 (by decide)).1 (.inl (1, 6, .inr (.inl (fun _ => 0))))
  have k2 := kn_new k1 (nm_snoc (hs 1 (by decide)).1 (ne 1 0 (by decide) (by decide) (by decide))) (.inl (1, 6, .inr (.inl (fun _ => 0))))
  have k3 := kn_new k2 (nm_snoc (nm_snoc (hs 2 (by decide)).1 (ne 2 0 (by decide) (by decide) (by decide))) (ne 2 1 (by decide) (by decide) (by decide))) (.inl (1, 6, .inr (.inl (fun _ => 0))))
  have k4 := kn_new k3 (nm_snoc (nm_snoc (nm_snoc (hs 3 (by decide)).1 (ne 3 0 (by decide) (by decide) (by decide))) (ne 3 1 (by decide) (by decide) (by decide))) (ne 3 2 (by decide) (by decide) (by decide))) (.inl (1, 6, .inr (.inl (fun _ => 0))))
  have k5 := kn_new k4 (nm_snoc (nm_snoc (nm_snoc (nm_snoc (hs 4 (by decide)).1 (ne 4 0 (by decide) (by decide) (by decide))) (ne 4 1 (by decide) (by decide) (by decide))) (ne 4 2 (by decide) (by decide) (by decide))) (ne 4 3 (by decide) (by decide) (by decide))) (.inl (1, 6, .inr (.inl (fun _ => 0))))
  have k6 := kn_new k5 (nm_snoc (nm_snoc (nm_snoc (nm_snoc (nm_snoc (hs 5 (by decide)).1 (ne 5 0 (by decide) (by decide) (by decide))) (ne 5 1 (by decide) (by decide) (by decide))) (ne 5 2 (by decide) (by decide) (by decide))) (ne 5 3 (by decide) (by decide) (by decide))) (ne 5 4 (by decide) (by decide) (by decide))) (.inl (1, 6, .inr (.inl (fun _ => 0))))
  have k7 := kn_new k6 (nm_snoc (nm_snoc (nm_snoc (nm_snoc (nm_snoc (nm_snoc (hs 6 (by decide)).1 (ne 6 0 (by decide) (by decide) (by decide))) (ne 6 1 (by decide) (by decide) (by decide))) (ne 6 2 (by decide) (by decide) (by decide))) (ne 6 3 (by decide) (by decide) (by decide))) (ne 6 4 (by decide) (by decide) (by decide))) (ne 6 5 (by decide) (by decide) (by decide))) (.inl (1, 6, .inr (.inl (fun _ => 0))))
  have k8 := kn_new k7 (nm_snoc (nm_snoc (nm_snoc (nm_snoc (nm_snoc (nm_snoc (nm_snoc hq (hs 0 (by decide)).2.symm) (hs 1 (by decide)).2.symm) (hs 2 (by decide)).2.symm) (hs 3 (by decide)).2.symm) (hs 4 (by decide)).2.symm) (hs 5 (by decide)).2.symm) (hs 6 (by decide)).2.symm) (.inl (3, 7, .inr (.inr (.inr (.inr (fun i => if i < 7 then some (r i) else none))))))
  have el : (List.range 7).map r = [] ++ [r 0] ++ [r 1] ++ [r 2] ++ [r 3] ++ [r 4] ++ [r 5] ++ [r 6] := rfl
  have eh : (h.1 ++ (List.range 7).map r ++ [q], va_up (vr_up h.2 ((List.range 7).map r) (.inl (1, 6, .inr (.inl (fun _ => 0))))) q (.inl (3, 7, .inr (.inr (.inr (.inr (fun i => if i < 7 then some (r i) else none))))))) = hN (hN (hN (hN (hN (hN (hN (hN h (r 0) (.inl (1, 6, .inr (.inl (fun _ => 0))))) (r 1) (.inl (1, 6, .inr (.inl (fun _ => 0))))) (r 2) (.inl (1, 6, .inr (.inl (fun _ => 0))))) (r 3) (.inl (1, 6, .inr (.inl (fun _ => 0))))) (r 4) (.inl (1, 6, .inr (.inl (fun _ => 0))))) (r 5) (.inl (1, 6, .inr (.inl (fun _ => 0))))) (r 6) (.inl (1, 6, .inr (.inl (fun _ => 0))))) q (.inl (3, 7, .inr (.inr (.inr (.inr (fun i => if i < 7 then some (r i) else none)))))) := by
    rw [el, vr_snoc, vr_snoc, vr_snoc, vr_snoc, vr_snoc, vr_snoc, vr_snoc]
    refine Prod.ext ?_ rfl
    show h.1 ++ ([] ++ [r 0] ++ [r 1] ++ [r 2] ++ [r 3] ++ [r 4] ++ [r 5] ++ [r 6]) ++ [q] = h.1 ++ [r 0] ++ [r 1] ++ [r 2] ++ [r 3] ++ [r 4] ++ [r 5] ++ [r 6] ++ [q]
    simp
  rw [eh]
  have hn : ∀ m : Nat, 14 ≤ m → i ≠ m := fun m hm => by omega
  refine kn_put k8 i fs (fs2 q) ?_ (by omega) ?_ hj (h9 q) (fun h3 k9 => K q r h3 k9)
  · rw [kU_n _ _ (hn _ (by decide)), kU_n _ _ (hn _ (by decide)), kU_n _ _ (hn _ (by decide)), kU_n _ _ (hn _ (by decide)), kU_n _ _ (hn _ (by decide)), kU_n _ _ (hn _ (by decide)), kU_n _ _ (hn _ (by decide)), kU_n _ _ (hn _ (by decide))]; exact hx
  · rw [kU_n _ _ (hn _ (by decide)), kU_n _ _ (hn _ (by decide)), kU_n _ _ (hn _ (by decide)), kU_n _ _ (hn _ (by decide)), kU_n _ _ (hn _ (by decide)), kU_n _ _ (hn _ (by decide)), kU_n _ _ (hn _ (by decide)), kU_n _ _ (hn _ (by decide))]; exact hc
end KNS
