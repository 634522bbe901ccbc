/-! PURE: forms: rows of numbers in order, their order -/
/-- x put into a row in order -/
def ins (x : Nat) : List Nat → List Nat
  | [] => [x]
  | y :: l => if y ≤ x then y :: ins x l else x :: y :: l
def SrL (l : List Nat) : Prop := l.Pairwise (fun a b => a ≤ b)
theorem ins_mem {x m : Nat} : ∀ l : List Nat, m ∈ ins x l ↔ m = x ∨ m ∈ l := by
  intro l
  induction l with
  | nil => simp [ins]
  | cons y l ih =>
    unfold ins
    split
    · rw [List.mem_cons, ih, List.mem_cons]
      exact ⟨fun h => h.elim (fun q => Or.inr (Or.inl q)) (fun q => q.elim Or.inl (fun q => Or.inr (Or.inr q))), fun h => h.elim (fun q => Or.inr (Or.inl q)) (fun q => q.elim Or.inl (fun q => Or.inr (Or.inr q)))⟩
    · rw [List.mem_cons]
theorem ins_srt {x : Nat} : ∀ l : List Nat, SrL l → SrL (ins x l) := by
  intro l
  induction l with
  | nil => intro _; unfold ins; exact List.pairwise_singleton _ _
  | cons y l ih =>
    intro h
    obtain ⟨h1, h2⟩ := List.pairwise_cons.mp h
    unfold ins
    split
    · rename_i q
      refine List.pairwise_cons.mpr ⟨fun z hz => ?_, ih h2⟩
      rcases (ins_mem l).mp hz with e | e
      · rw [e]; exact q
      · exact h1 z e
    · rename_i q
      refine List.pairwise_cons.mpr ⟨fun z hz => ?_, h⟩
      rcases List.mem_cons.mp hz with e | e
      · omega
      · have := h1 z e; omega
theorem ins_len {x : Nat} : ∀ l : List Nat, (ins x l).length = l.length + 1 := by
  intro l
  induction l with
  | nil => rfl
  | cons y l ih =>
    unfold ins
    split
    · rw [List.length_cons, ih, List.length_cons]
    · rfl
theorem ins_at {x : Nat} : ∀ l : List Nat, SrL l → ∃ c, c ≤ l.length ∧ (∀ i, i < c → l.getD i 0 ≤ x) ∧ (∀ i, c ≤ i → i < l.length → x < l.getD i 0) ∧ ins x l = insL l c x := by
  intro l
  induction l with
  | nil => intro _; exact ⟨0, Nat.le_refl _, fun i hi => absurd hi (by omega), fun i _ hi => absurd hi (by simp), rfl⟩
  | cons y l ih =>
    intro h
    obtain ⟨h1, h2⟩ := List.pairwise_cons.mp h
    obtain ⟨c, c1, c2, c3, c4⟩ := ih h2
    unfold ins
    by_cases q : y ≤ x
    · rw [if_pos q]
      refine ⟨c + 1, by rw [List.length_cons]; omega, fun i hi => ?_, fun i hi hl => ?_, ?_⟩
      · cases i with
        | zero => exact q
        | succ i => exact c2 i (by omega)
      · cases i with
        | zero => omega
        | succ i => rw [List.length_cons] at hl; exact c3 i (by omega) (by omega)
      · rw [c4]; rfl
    · rw [if_neg q]
      refine ⟨0, by omega, fun i hi => absurd hi (by omega), fun i _ hl => ?_, rfl⟩
      cases i with
      | zero => show x < y; omega
      | succ i =>
        rw [List.length_cons] at hl
        have : l.getD i 0 ∈ l := mem_getD.mpr ⟨i, by omega, rfl⟩
        have := h1 _ this
        show x < l.getD i 0
        omega
theorem ins_hd {z : Nat} : ∀ m : List Nat, SrL (z :: m) → ins z m = z :: m := by
  intro m
  induction m with
  | nil => intro _; rfl
  | cons y m ih =>
    intro h
    obtain ⟨h1, h2⟩ := List.pairwise_cons.mp h
    obtain ⟨h3, h4⟩ := List.pairwise_cons.mp h2
    have zy := h1 y List.mem_cons_self
    unfold ins
    by_cases q : y ≤ z
    · have e : y = z := by omega
      subst e
      rw [if_pos q, ih h2]
    · rw [if_neg q]
/-- each number is at most its fellow -/
def ple : List Nat → List Nat → Prop
  | [], [] => True
  | a :: l, b :: m => a ≤ b ∧ ple l m
  | _, _ => False
theorem ple_ins : ∀ (L M : List Nat), ple L M → SrL L → SrL M → ∀ a b : Nat, a ≤ b → ple (ins a L) (ins b M) := by
  intro L
  induction L with
  | nil =>
    intro M hp _ _ a b hab
    cases M with
    | nil => exact ⟨hab, trivial⟩
    | cons z m => exact hp.elim
  | cons y l ih =>
    intro M hp hL hM a b hab
    cases M with
    | nil => exact hp.elim
    | cons z m =>
      obtain ⟨yz, plm⟩ := hp
      obtain ⟨l1, l2⟩ := List.pairwise_cons.mp hL
      obtain ⟨m1, m2⟩ := List.pairwise_cons.mp hM
      show ple (if y ≤ a then y :: ins a l else a :: y :: l) (if z ≤ b then z :: ins b m else b :: z :: m)
      by_cases q1 : y ≤ a
      · rw [if_pos q1]
        by_cases q2 : z ≤ b
        · rw [if_pos q2]; exact ⟨yz, ih m plm l2 m2 a b hab⟩
        · rw [if_neg q2]
          refine ⟨by omega, ?_⟩
          rw [← ins_hd m hM]
          exact ih m plm l2 m2 a z (by omega)
      · rw [if_neg q1]
        by_cases q2 : z ≤ b
        · rw [if_pos q2]
          refine ⟨by omega, ?_⟩
          rw [← ins_hd l hL]
          exact ih m plm l2 m2 y b (by omega)
        · rw [if_neg q2]; exact ⟨hab, yz, plm⟩
/-- the row of the numbers r n, in order -/
def srF (r : Nat → Nat) (g L : List Nat) : List Nat := L.foldl (fun g n => ins (r n) g) g
theorem srF_srt {r : Nat → Nat} : ∀ (L g : List Nat), SrL g → SrL (srF r g L) := by
  intro L
  induction L with
  | nil => intro g h; exact h
  | cons n L ih => intro g h; exact ih _ (ins_srt g h)
theorem srF_len {r : Nat → Nat} : ∀ (L g : List Nat), (srF r g L).length = g.length + L.length := by
  intro L
  induction L with
  | nil => intro g; rfl
  | cons n L ih =>
    intro g
    show (srF r (ins (r n) g) L).length = _
    rw [ih, ins_len, List.length_cons]
    omega
theorem srF_ple {r s : Nat → Nat} : ∀ (L g k : List Nat), (∀ n ∈ L, r n ≤ s n) → ple g k → SrL g → SrL k → ple (srF r g L) (srF s k L) := by
  intro L
  induction L with
  | nil => intro g k _ h _ _; exact h
  | cons n L ih =>
    intro g k h hp hg hk
    exact ih _ _ (fun m hm => h m (List.mem_cons_of_mem _ hm)) (ple_ins g k hp hg hk _ _ (h n List.mem_cons_self)) (ins_srt g hg) (ins_srt k hk)
theorem srF1 {r : Nat → Nat} {g L : List Nat} {k : Nat} (hk : k < L.length) : srF r g (L.take (k + 1)) = ins (r (L.getD k 0)) (srF r g (L.take k)) := by
  unfold srF
  rw [take1 hk, List.foldl_append]; rfl
theorem ins_gIns {x : Nat} : ∀ g : List Nat, Asc g → x ∉ g → ins x g = gIns x g := fun g hA hx => by
  have hs : SrL g := (asc_pw.mp hA).imp (fun h => Nat.le_of_lt h)
  refine asc_ext ?_ (gIns_asc hA) (fun m => by rw [ins_mem, gIns_mem]; exact ⟨fun q => q.elim Or.inr Or.inl, fun q => q.elim Or.inr Or.inl⟩)
  obtain ⟨c, c1, c2, c3, c4⟩ := ins_at (x := x) g hs
  rw [c4]
  refine insL_asc hA ⟨c1, fun i hi => ?_, fun i h1 h2 => Nat.le_of_lt (c3 i h1 h2)⟩ hx
  have h1 := c2 i hi
  have h2 : g.getD i 0 ≠ x := fun q => hx (mem_getD.mpr ⟨i, by omega, q⟩)
  omega
theorem srF_add {r : Nat → Nat} : ∀ (L g : List Nat), Asc g → (∀ n ∈ L, r n ∉ g) → L.Pairwise (fun a b => r a ≠ r b) → srF r g L = addP (fun _ => true) r g L := by
  intro L
  induction L with
  | nil => intro g _ _ _; rfl
  | cons n L ih =>
    intro g hA h1 h2
    obtain ⟨h3, h4⟩ := List.pairwise_cons.mp h2
    show srF r (ins (r n) g) L = addP (fun _ => true) r (gIns (r n) g) L
    rw [ins_gIns g hA (h1 n List.mem_cons_self)]
    refine ih _ (gIns_asc hA) (fun m hm q => ?_) h4
    rcases gIns_mem.mp q with e | e
    · exact h1 m (List.mem_cons_of_mem _ hm) e
    · exact h3 m hm e.symm
/-- L is before M, or the same -/
def lexL (L M : List Nat) : Prop := ∀ k : Nat, k < L.length → (∀ j : Nat, j < k → M.getD j 0 = L.getD j 0) → L.getD k 0 ≤ M.getD k 0
theorem lexL.rf {L : List Nat} : lexL L L := fun _ _ _ => Nat.le_refl _
theorem lexL.tr {a b c : List Nat} (hab : a.length = b.length) (h1 : lexL a b) (h2 : lexL b c) : lexL a c := by
  intro i hi hag
  have e : ∀ n j : Nat, j < n → j < i → b.getD j 0 = a.getD j 0 := by
    intro n
    induction n with
    | zero => intro j hj; omega
    | succ n ih =>
      intro j hj hji
      have q1 := h1 j (by omega) (fun k hk => ih k (by omega) (by omega))
      have q2 := h2 j (by omega) (fun k hk => by rw [hag k (by omega), ih k (by omega) (by omega)])
      have q3 := hag j hji
      omega
  have q1 := h1 i hi (fun k hk => e i k hk hk)
  have q2 := h2 i (by omega) (fun k hk => by rw [hag k hk, e i k hk hk])
  omega
theorem lexL.un {a b : List Nat} (hab : a.length = b.length) (h1 : lexL a b) (h2 : lexL b a) : ∀ n i : Nat, i < n → i < a.length → a.getD i 0 = b.getD i 0 := by
  intro n
  induction n with
  | zero => intro i hi; omega
  | succ n ih =>
    intro i hi hl
    have q1 := h1 i hl (fun j hj => (ih j (by omega) (by omega)).symm)
    have q2 := h2 i (by omega) (fun j hj => ih j (by omega) (by omega))
    omega
theorem ple_lex : ∀ (L M : List Nat), ple L M → lexL L M := by
  have at_ : ∀ (L M : List Nat), ple L M → ∀ k, k < L.length → L.getD k 0 ≤ M.getD k 0 := by
    intro L
    induction L with
    | nil => intro M _ k hk; simp at hk
    | cons y l ih =>
      intro M hp k hk
      cases M with
      | nil => exact hp.elim
      | cons z m =>
        cases k with
        | zero => exact hp.1
        | succ k => rw [List.length_cons] at hk; exact ih m hp.2 k (by omega)
  intro L M hp k hk _
  exact at_ L M hp k hk
/-- the nodes of P get labels of their own, 40 and on -/
def Bj (P : List Nat) (ρ : Nat → Nat) : Prop := (∀ i : Nat, i < 6 → stb 2 P (40 + i) = true → 40 ≤ ρ i ∧ ρ i < 40 + (ndL P).length) ∧ ∀ i j : Nat, i < 6 → j < 6 → i ≠ j → stb 2 P (40 + i) = true → stb 2 P (40 + j) = true → ρ i ≠ ρ j
/-- ρ keeps nodes apart, and makes them nodes -/
def Ij (P : List Nat) (ρ : Nat → Nat) : Prop := (∀ i : Nat, i < 6 → stb 2 P (40 + i) = true → 40 ≤ ρ i ∧ ρ i < 46) ∧ ∀ i j : Nat, i < 6 → j < 6 → i ≠ j → stb 2 P (40 + i) = true → stb 2 P (40 + j) = true → ρ i ≠ ρ j
theorem Bj.ij {P : List Nat} {ρ : Nat → Nat} (h : Bj P ρ) : Ij P ρ := ⟨fun i hi hs => ⟨(h.1 i hi hs).1, by have := (h.1 i hi hs).2; have := ndL_len (g := P); omega⟩, h.2⟩
theorem Ij.tot {P : List Nat} {ρ : Nat → Nat} (hP : okL P) (h : Ij P ρ) : tot ρ P := fun t h40 ht => by
  have h46 := stb_lt hP ht
  exact (h.1 (t - 40) (by omega) (by rw [show 40 + (t - 40) = t by omega]; exact ht)).2
theorem Ij.inj {P : List Nat} {ρ : Nat → Nat} (hP : okL P) (h : Ij P ρ) : ∀ a ∈ P, ∀ b ∈ P, ren ρ a = ren ρ b → a = b := by
  have tt := h.tot hP
  have tinj : ∀ s t, stb 2 P s = true → stb 2 P t = true → tr ρ s = tr ρ t → s = t := fun s t hs ht e => by
    have s46 := stb_lt hP hs
    have t46 := stb_lt hP ht
    unfold tr at e
    by_cases q1 : 40 ≤ s
    · have hs' : stb 2 P (40 + (s - 40)) = true := by rw [show 40 + (s - 40) = s by omega]; exact hs
      rw [if_pos ⟨q1, s46⟩] at e
      have n1 := h.1 (s - 40) (by omega) hs'
      by_cases q2 : 40 ≤ t
      · have ht' : stb 2 P (40 + (t - 40)) = true := by rw [show 40 + (t - 40) = t by omega]; exact ht
        rw [if_pos ⟨q2, t46⟩] at e
        by_cases q3 : s = t
        · exact q3
        · exact absurd e (h.2 (s - 40) (t - 40) (by omega) (by omega) (by omega) hs' ht')
      · rw [if_neg (fun x => q2 x.1)] at e; omega
    · rw [if_neg (fun x => q1 x.1)] at e
      by_cases q2 : 40 ≤ t
      · have ht' : stb 2 P (40 + (t - 40)) = true := by rw [show 40 + (t - 40) = t by omega]; exact ht
        rw [if_pos ⟨q2, t46⟩] at e
        have n1 := h.1 (t - 40) (by omega) ht'
        omega
      · rw [if_neg (fun x => q2 x.1)] at e; exact e
  intro a ha b hb e
  obtain ⟨a1, a2, a3⟩ := ren_p (ρ := ρ) (n := a) (by have := tt.b hP (st_o ha); omega)
  obtain ⟨b1, b2, b3⟩ := ren_p (ρ := ρ) (n := b) (by have := tt.b hP (st_o hb); omega)
  rw [e] at a1 a2 a3
  have e1 := tinj _ _ (st_s ha) (st_s hb) (a1.symm.trans b1)
  have e2 : a / 64 % 64 = b / 64 % 64 := a2.symm.trans b2
  have e3 := tinj _ _ (st_o ha) (st_o hb) (a3.symm.trans b3)
  omega
theorem Ij.srF {P : List Nat} {ρ : Nat → Nat} (hA : Asc P) (hP : okL P) (h : Ij P ρ) : srF (ren ρ) [] P = imG P ρ := srF_add P [] asc_nil (fun _ _ => List.not_mem_nil) ((pw_inj hA).mpr (h.inj hP))
theorem Ij.len {P : List Nat} {ρ : Nat → Nat} (hA : Asc P) (hP : okL P) (h : Ij P ρ) : (imG P ρ).length = P.length := by
  rw [← h.srF hA hP, srF_len, List.length_nil, Nat.zero_add]
/-- L is the form of P -/
def FormOf (P L : List Nat) : Prop := (∃ ρ, Bj P ρ ∧ L = imG P ρ) ∧ ∀ σ, Bj P σ → lexL L (imG P σ)
theorem FormOf.un {P L M : List Nat} (hA : Asc P) (hP : okL P) (h1 : FormOf P L) (h2 : FormOf P M) : L = M := by
  obtain ⟨⟨ρ, r1, r2⟩, r3⟩ := h1
  obtain ⟨⟨σ, s1, s2⟩, s3⟩ := h2
  have l1 := r1.ij.len hA hP
  have l2 := s1.ij.len hA hP
  rw [← r2] at l1
  rw [← s2] at l2
  have a := r3 σ s1
  have b := s3 ρ r1
  rw [← s2] at a
  rw [← r2] at b
  have e := lexL.un (l1.trans l2.symm) a b
  refine List.ext_getElem (l1.trans l2.symm) (fun i h3 h4 => ?_)
  have := e (i + 1) i (by omega) h3
  rw [List.getD_eq_getElem?_getD, List.getD_eq_getElem?_getD, List.getElem?_eq_getElem h3, List.getElem?_eq_getElem h4] at this
  exact this
theorem FormOf.len {P L : List Nat} (hA : Asc P) (hP : okL P) (h : FormOf P L) : L.length = P.length := by
  obtain ⟨⟨ρ, r1, r2⟩, _⟩ := h
  rw [r2]; exact r1.ij.len hA hP
theorem ren_le {ρ σ : Nat → Nat} {P : List Nat} {n : Nat} (hP : okL P) (hn : n ∈ P) (h : ∀ i : Nat, i < 6 → stb 2 P (40 + i) = true → ρ i ≤ σ i) : ren ρ n ≤ ren σ n := by
  have one : ∀ t, stb 2 P t = true → tr ρ t ≤ tr σ t := fun t ht => by
    have h46 := stb_lt hP ht
    unfold tr
    split
    · rename_i q; exact h (t - 40) (by omega) (by rw [show 40 + (t - 40) = t by omega]; exact ht)
    · exact Nat.le_refl _
  have a := one _ (st_s hn)
  have b := one _ (st_o hn)
  unfold ren
  omega
