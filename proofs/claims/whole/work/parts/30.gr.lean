/-! PURE: the class's Graph: an ascending list of fact numbers -/
/-- the heap h has become h2 outside of the addresses that S names -/
def Ch (h h2 : pH) (S : Nat → Prop) : Prop := h2.1 = h.1 ∧ ∀ x, ¬ S x → h2.2 x = h.2 x
theorem Ch.rf {h : pH} {S : Nat → Prop} : Ch h h S := ⟨rfl, fun _ _ => rfl⟩
theorem Ch.tr {h1 h2 h3 : pH} {S : Nat → Prop} (a : Ch h1 h2 S) (b : Ch h2 h3 S) : Ch h1 h3 S := ⟨b.1.trans a.1, fun x hx => (b.2 x hx).trans (a.2 x hx)⟩
theorem Ch.mono {h1 h2 : pH} {S T : Nat → Prop} (a : Ch h1 h2 S) (hs : ∀ x, S x → T x) : Ch h1 h2 T := ⟨a.1, fun x hx => a.2 x (fun q => hx (hs x q))⟩
theorem Ch.up {h : pH} {a : Nat} {e : pE} {S : Nat → Prop} (ha : S a) : Ch h (h.1, va_up h.2 a e) S := ⟨rfl, fun x hx => va_up_ne _ _ (fun q => hx (q ▸ ha))⟩
/-- the heap with e at a -/
def hU (h : pH) (a : Nat) (e : pE) : pH := (h.1, va_up h.2 a e)
theorem hU_1 (h : pH) (a : Nat) (e : pE) : (hU h a e).1 = h.1 := rfl
theorem hU_s (h : pH) (a : Nat) (e : pE) : (hU h a e).2 a = e := va_up_self _ _ _
theorem hU_n (h : pH) {a x : Nat} (e : pE) (hx : x ≠ a) : (hU h a e).2 x = h.2 x := va_up_ne _ _ hx
theorem hU_u (h : pH) (a : Nat) (e e2 : pE) : hU (hU h a e) a e2 = hU h a e2 := by unfold hU; rw [bx_uu]
theorem hU_id {h : pH} {a : Nat} {e : pE} (he : h.2 a = e) : hU h a e = h := by
  refine Prod.ext rfl (funext fun x => ?_)
  by_cases hx : x = a
  · subst hx; rw [hU_s]; exact he.symm
  · exact hU_n h e hx
theorem Ch.u {h : pH} {a : Nat} {e : pE} {S : Nat → Prop} (ha : S a) : Ch h (hU h a e) S := Ch.up ha
/-- reading and writing, where the cell is known -/
theorem gI_of {h : pH} {a ci j : Nat} {fs : List Value} {v : Int32} (hf : h.2 a = .inr (ci, fs)) (ha : a ∈ h.1) (hj : fs[j]? = some (.int v)) : gI h a ci j = some v := by
  simp [gI, oG, ha, hf, hj]
theorem gR_of {h : pH} {a ci j : Nat} {fs : List Value} {v : Nat} (hf : h.2 a = .inr (ci, fs)) (ha : a ∈ h.1) (hj : fs[j]? = some (.ref v)) : gR h a ci j = some v := by
  simp [gR, oG, ha, hf, hj]
theorem oP_of {h : pH} {a ci j : Nat} {fs : List Value} {v : Value} (hf : h.2 a = .inr (ci, fs)) (ha : a ∈ h.1) (hj : j < fs.length) : oP h a ci j v = some (hU h a (.inr (ci, fs.set j v))) := by
  simp [oP, ha, hf, hj, hU]
theorem oC_of {h : pH} {a ci : Nat} {fs : List Value} (hf : h.2 a = .inr (ci, fs)) (ha : a ∈ h.1) : oC h a ci = true := by
  simp [oC, ha, hf]
theorem vin_nI {i n : Nat} (hi : i < n) (hn : n < 2 ^ 31) : vin (nI i) n = true := by
  unfold vin
  rw [nI_toInt (by omega), Bool.and_eq_true, decide_eq_true_eq, decide_eq_true_eq]
  omega
theorem aI_of {h : pH} {a n i : Nat} {f : Nat → Int32} (hf : h.2 a = .inl (0, n, .inl f)) (ha : a ∈ h.1) (hi : i < n) (hn : n < 2 ^ 31) : aI h a (nI i) = some (f i) := by
  simp [aI, oA, ha, hf, vin_nI hi hn, nI_clamp (show i < 2 ^ 31 by omega)]
theorem sI_of {h : pH} {a n i : Nat} {f : Nat → Int32} {x : Int32} (hf : h.2 a = .inl (0, n, .inl f)) (ha : a ∈ h.1) (hi : i < n) (hn : n < 2 ^ 31) : sI h a (nI i) x = some (hU h a (.inl (0, n, .inl (upd f i x)))) := by
  simp [hU, sI, oA, ha, hf, vin_nI hi hn, nI_clamp (show i < 2 ^ 31 by omega)]
theorem aJ_of {h : pH} {a n i : Nat} {f : Nat → Int64} (hf : h.2 a = .inl (1, n, .inr (.inl f))) (ha : a ∈ h.1) (hi : i < n) (hn : n < 2 ^ 31) : aJ h a (nI i) = some (f i) := by
  simp [aJ, oA, ha, hf, vin_nI hi hn, nI_clamp (show i < 2 ^ 31 by omega)]
theorem sJ_of {h : pH} {a n i : Nat} {f : Nat → Int64} {x : Int64} (hf : h.2 a = .inl (1, n, .inr (.inl f))) (ha : a ∈ h.1) (hi : i < n) (hn : n < 2 ^ 31) : sJ h a (nI i) x = some (hU h a (.inl (1, n, .inr (.inl (vp_updL f i x))))) := by
  simp [hU, sJ, oA, ha, hf, vin_nI hi hn, nI_clamp (show i < 2 ^ 31 by omega)]
/-- ascending, and small -/
def Asc (g : List Nat) : Prop := ∀ i j : Nat, i < j → j < g.length → g.getD i 0 < g.getD j 0
def Sm (g : List Nat) : Prop := ∀ i : Nat, i < g.length → g.getD i 0 < 2 ^ 20
/-- a Graph at a, its row at q, with the facts g -/
def Gr (h : pH) (a q : Nat) (g : List Nat) : Prop := a ∈ h.1 ∧ q ∈ h.1 ∧ a ≠ q ∧ h.2 a = .inr (0, [.ref q, .int (nI g.length)]) ∧ g.length ≤ 30 ∧ ∃ f : Nat → Int32, h.2 q = .inl (0, 30, .inl f) ∧ ∀ i : Nat, i < g.length → f i = nI (g.getD i 0)
theorem Gr.keep {h h2 : pH} {a q : Nat} {g : List Nat} {S : Nat → Prop} (hg : Gr h a q g) (hc : Ch h h2 S) (h1 : ¬ S a) (h3 : ¬ S q) : Gr h2 a q g := by
  obtain ⟨r1, r2, r3, r4, r5, f, r6, r7⟩ := hg
  exact ⟨by rw [hc.1]; exact r1, by rw [hc.1]; exact r2, r3, by rw [hc.2 a h1]; exact r4, r5, f, by rw [hc.2 q h3]; exact r6, r7⟩
theorem Gr.cnt {h : pH} {a q : Nat} {g : List Nat} (hg : Gr h a q g) : gI h a 0 1 = some (nI g.length) := gI_of hg.2.2.2.1 hg.1 rfl
theorem Gr.row {h : pH} {a q : Nat} {g : List Nat} (hg : Gr h a q g) : gR h a 0 0 = some q := gR_of hg.2.2.2.1 hg.1 rfl
theorem Gr.is {h : pH} {a q : Nat} {g : List Nat} (hg : Gr h a q g) : oC h a 0 = true := oC_of hg.2.2.2.1 hg.1
theorem Gr.at {h : pH} {a q i : Nat} {g : List Nat} (hg : Gr h a q g) (hi : i < g.length) : aI h q (nI i) = some (nI (g.getD i 0)) := by
  obtain ⟨r1, r2, r3, r4, r5, f, r6, r7⟩ := hg
  rw [aI_of r6 r2 (by omega) (by omega), r7 i hi]
/-- count() -/
theorem gr_count {G : Nat} {h : pH} {a q : Nat} {g : List Nat} (hg : Gr h a q g) : f_Gr_count G a h = some (some (.int (nI g.length)), h) := by
  rw [f_Gr_count_eq, hg.cnt]; rfl
/-- at(k): the k-th number, or -1 -/
theorem gr_at {G : Nat} {h : pH} {a q k : Nat} {g : List Nat} (hg : Gr h a q g) (hk : k < 2 ^ 31) : f_Gr_at G a (nI k) h = some (some (.int (if k < g.length then nI (g.getD k 0) else -1)), h) := by
  have h5 := hg.2.2.2.2.1
  rw [f_Gr_at_eq, if_neg (nI_pos hk), hg.cnt, Option.bind_some]
  by_cases hc : k < g.length
  · rw [if_neg (nI_ge hc (by omega)), if_pos hc, hg.row, Option.bind_some, hg.at hc, Option.bind_some]
    rfl
  · rw [if_pos (nI_le (by omega) hk), if_neg hc]
    rfl
/-- how many numbers are less -/
def cl (g : List Nat) (n : Nat) : Nat := (g.filter (fun m => decide (m < n))).length
theorem cI_of {α : Type} {g : Bool} {o : Option pR} {f : Int32 → pH → Option α} {v : Int32} {h1 : pH} (hg : g = true) (ho : o = some (some (.int v), h1)) : cI g o f = f v h1 := by
  subst hg ho; rfl
theorem cJ_of {α : Type} {g : Bool} {o : Option pR} {f : Int64 → pH → Option α} {v : Int64} {h1 : pH} (hg : g = true) (ho : o = some (some (.long v), h1)) : cJ g o f = f v h1 := by
  subst hg ho; rfl
theorem cV_of {α : Type} {g : Bool} {o : Option pR} {f : pH → Option α} {h1 : pH} (hg : g = true) (ho : o = some (none, h1)) : cV g o f = f h1 := by
  subst hg ho; rfl
theorem tI_of {g : Bool} {o : Option pT} {f : Int32 → pH → Option pT} {v : Int32} {h1 : pH} (hg : g = true) (ho : o = some (.inr (some (.int v)), h1)) : tI g o f = f v h1 := by
  subst hg ho; rfl
theorem tR_of {g : Bool} {o : Option pT} {f : Nat → pH → Option pT} {v : Nat} {h1 : pH} (hg : g = true) (ho : o = some (.inr (some (.ref v)), h1)) : tR g o f = f v h1 := by
  subst hg ho; rfl
theorem tV_of {g : Bool} {o : Option pT} {f : pH → Option pT} {h1 : pH} (hg : g = true) (ho : o = some (.inr none, h1)) : tV g o f = f h1 := by
  subst hg ho; rfl
theorem tI_th {g : Bool} {o : Option pT} {f : Int32 → pH → Option pT} {kd : Nat} {h1 : pH} (hg : g = true) (ho : o = some (.inl kd, h1)) : tI g o f = some (.inl kd, h1) := by
  subst hg ho; rfl
theorem tR_th {g : Bool} {o : Option pT} {f : Nat → pH → Option pT} {kd : Nat} {h1 : pH} (hg : g = true) (ho : o = some (.inl kd, h1)) : tR g o f = some (.inl kd, h1) := by
  subst hg ho; rfl
theorem tV_th {g : Bool} {o : Option pT} {f : pH → Option pT} {kd : Nat} {h1 : pH} (hg : g = true) (ho : o = some (.inl kd, h1)) : tV g o f = some (.inl kd, h1) := by
  subst hg ho; rfl
theorem tC_of {g : Bool} {o : Option pT} {f : Int32 → pH → Option pR} {c : Nat → pH → Option pR} {v : Int32} {h1 : pH} (hg : g = true) (ho : o = some (.inr (some (.int v)), h1)) : tC g o f c = f v h1 := by
  subst hg ho; rfl
theorem tC_th {g : Bool} {o : Option pT} {f : Int32 → pH → Option pR} {c : Nat → pH → Option pR} {kd : Nat} {h1 : pH} (hg : g = true) (ho : o = some (.inl kd, h1)) : tC g o f c = c kd h1 := by
  subst hg ho; rfl
