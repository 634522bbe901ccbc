/-- n put into g, or taken out of it -/
def gIns (n : Nat) (g : List Nat) : List Nat := g.filter (fun m => decide (m < n)) ++ n :: g.filter (fun m => decide (n < m))
def gDel (n : Nat) (g : List Nat) : List Nat := g.filter (fun m => decide (m ≠ n))
theorem gIns_mem {n m : Nat} {g : List Nat} : m ∈ gIns n g ↔ m ∈ g ∨ m = n := by
  unfold gIns
  rw [List.mem_append, List.mem_cons, List.mem_filter, List.mem_filter, decide_eq_true_eq, decide_eq_true_eq]
  constructor
  · rintro (h | h | h)
    · exact Or.inl h.1
    · exact Or.inr h
    · exact Or.inl h.1
  · rintro (h | h)
    · rcases Nat.lt_trichotomy m n with q | q | q
      · exact Or.inl ⟨h, q⟩
      · exact Or.inr (Or.inl q)
      · exact Or.inr (Or.inr ⟨h, q⟩)
    · exact Or.inr (Or.inl h)
theorem gDel_mem {n m : Nat} {g : List Nat} : m ∈ gDel n g ↔ m ∈ g ∧ m ≠ n := by
  unfold gDel
  rw [List.mem_filter, decide_eq_true_eq]
theorem asc_pw {g : List Nat} : Asc g ↔ g.Pairwise (fun a b => a < b) := by
  rw [List.pairwise_iff_getElem]
  constructor
  · intro h i j hi hj hij
    have := h i j hij hj
    rwa [List.getD_eq_getElem?_getD, List.getD_eq_getElem?_getD, List.getElem?_eq_getElem hi, List.getElem?_eq_getElem hj] at this
  · intro h i j hij hj
    have := h i j (by omega) hj hij
    rw [List.getD_eq_getElem?_getD, List.getD_eq_getElem?_getD, List.getElem?_eq_getElem (show i < g.length by omega), List.getElem?_eq_getElem hj]
    exact this
theorem asc_filter {g : List Nat} (p : Nat → Bool) (h : Asc g) : Asc (g.filter p) := asc_pw.mpr ((asc_pw.mp h).filter p)
theorem gIns_asc {n : Nat} {g : List Nat} (h : Asc g) : Asc (gIns n g) := by
  rw [asc_pw]
  unfold gIns
  rw [List.pairwise_append, List.pairwise_cons]
  refine ⟨(asc_pw.mp h).filter _, ⟨fun m hm => ?_, (asc_pw.mp h).filter _⟩, fun x hx y hy => ?_⟩
  · exact of_decide_eq_true (List.mem_filter.mp hm).2
  · have h1 := of_decide_eq_true (List.mem_filter.mp hx).2
    rcases List.mem_cons.mp hy with q | q
    · rw [q]; exact h1
    · have h2 := of_decide_eq_true (List.mem_filter.mp q).2
      omega
theorem gDel_asc {n : Nat} {g : List Nat} (h : Asc g) : Asc (gDel n g) := asc_filter _ h
theorem insL_eq {g : List Nat} {c n : Nat} (ha : Asc g) (hc : Pl g n c) (hn : n ∉ g) : insL g c n = gIns n g := asc_ext (insL_asc ha hc hn) (gIns_asc ha) (fun m => by rw [insL_mem, gIns_mem])
theorem delL_eq {g : List Nat} {c n : Nat} (ha : Asc g) (hc : c < g.length) (hn : g.getD c 0 = n) : delL g c = gDel n g := asc_ext (delL_asc ha hc) (gDel_asc ha) (fun m => by rw [delL_mem ha hc, gDel_mem, hn])
theorem gIns_len {n : Nat} {g : List Nat} (ha : Asc g) (hn : n ∉ g) : (gIns n g).length = g.length + 1 := by
  obtain ⟨c, hc⟩ := Pl.ex ha n
  rw [← insL_eq ha hc hn, insL_len hc.1]
theorem gIns_id {n : Nat} {g : List Nat} (ha : Asc g) (hn : n ∈ g) : gIns n g = g := asc_ext (gIns_asc ha) ha (fun m => by rw [gIns_mem]; exact ⟨fun h => h.elim id (fun q => q ▸ hn), Or.inl⟩)
theorem gDel_id {n : Nat} {g : List Nat} (ha : Asc g) (hn : n ∉ g) : gDel n g = g := asc_ext (gDel_asc ha) ha (fun m => by rw [gDel_mem]; exact ⟨fun h => h.1, fun h => ⟨h, fun q => hn (q ▸ h)⟩⟩)
/-- the row of a Graph while it is shifted up -/
def shU (f : Nat → Int32) (c d : Nat) : Nat → Int32 := fun i => if c < i ∧ i ≤ c + d then f (i - 1) else f i
theorem ins_loop {G a q n c len : Nat} {h : pH} (haL : a ∈ h.1) (hqL : q ∈ h.1) (haq : a ≠ q) (hfa : h.2 a = .inr (0, [.ref q, .int (nI len)])) (hlen : len < 30) :
    ∀ (d F : Nat) (f : Nat → Int32), d < F → c + d ≤ 29 →
      f_Gr_insert_b33 G F a (nI n) (nI c) (nI (c + d)) (hU h q (.inl (0, 30, .inl f))) = some (some (.int 1), hU (hU h q (.inl (0, 30, .inl (upd (shU f c d) c (nI n))))) a (.inr (0, [.ref q, .int (nI (len + 1))]))) := by
  have ea : ∀ g' : Nat → Int32, (hU h q (.inl (0, 30, .inl g'))).2 a = .inr (0, [.ref q, .int (nI len)]) := fun g' => (hU_n h _ haq).trans hfa
  have eq : ∀ g' : Nat → Int32, (hU h q (.inl (0, 30, .inl g'))).2 q = .inl (0, 30, .inl g') := fun g' => hU_s h q _
  intro d
  induction d with
  | zero =>
    intro F f hF hc
    obtain ⟨F, rfl⟩ : ∃ F', F = F' + 1 := ⟨F - 1, by omega⟩
    have e0 : shU f c 0 = f := funext fun i => by unfold shU; rw [if_neg (by omega)]
    have e1 : nI len + 1 = nI (len + 1) := nI_1 len
    rw [f_Gr_insert_b33_eq, if_pos (nI_le (by omega) (by omega)), gR_of (ea f) haL rfl, Option.bind_some, sI_of (eq f) hqL (by omega) (by omega), Option.bind_some, hU_u, gI_of (ea _) haL rfl, Option.bind_some, oP_of (ea _) haL (Nat.le_of_ble_eq_true rfl), Option.bind_some, e0, e1]
    rfl
  | succ d ih =>
    intro F f hF hc
    obtain ⟨F, rfl⟩ : ∃ F', F = F' + 1 := ⟨F - 1, by omega⟩
    have e : upd (shU (upd f (c + d + 1) (f (c + d))) c d) c (nI n) = upd (shU f c (d + 1)) c (nI n) := funext fun i => by
      simp only [upd, shU]
      by_cases h1 : i = c
      · rw [if_pos h1, if_pos h1]
      · rw [if_neg h1, if_neg h1]
        by_cases h2 : c < i ∧ i ≤ c + d
        · rw [if_pos h2, if_neg (by omega), if_pos (by omega)]
        · rw [if_neg h2]
          by_cases h3 : i = c + d + 1
          · rw [if_pos h3, if_pos (by omega), h3]; rfl
          · rw [if_neg h3, if_neg (by omega)]
    rw [f_Gr_insert_b33_eq, if_neg (nI_ge (by omega) (by omega)), gR_of (ea f) haL rfl, Option.bind_some, Option.bind_some,
      show c + (d + 1) = (c + d) + 1 by omega, nI_pred, aI_of (eq f) hqL (by omega) (by omega), Option.bind_some,
      sI_of (eq f) hqL (by omega) (by omega), Option.bind_some, hU_u, pk_m1, ih F _ (by omega) (by omega), e]
/-- insert(n): it is there -/
theorem gr_insert0 {G a q n : Nat} {h : pH} {g : List Nat} (hG : 40 ≤ G) (hg : Gr h a q g) (ha : Asc g) (hs : Sm g) (hn : n < 2 ^ 20) (hm : n ∈ g) : f_Gr_insert G a (nI n) h = some (some (.int 0), h) := by
  obtain ⟨c, hc⟩ := Pl.ex ha n
  have h5 := hg.2.2.2.2.1
  have c1 := hc.1
  obtain ⟨h1, h2⟩ := (Pl.mem ha hc).mp hm
  rw [f_Gr_insert_eq, cI_of hg.is (gr_placeOf (by omega) hg hs hn hc), cI_of hg.is (gr_at hg (by omega)), if_pos h1, h2, if_pos rfl]
theorem gr_insertN {G a q n c : Nat} {h : pH} {g : List Nat} (hG : 40 ≤ G) (hg : Gr h a q g) (ha : Asc g) (hs : Sm g) (hn : n < 2 ^ 20) (hm : n ∉ g) (hc : Pl g n c) : f_Gr_insert G a (nI n) h = (if nI g.length < (30 : Int32) then f_Gr_insert_b33 G G a (nI n) (nI c) (nI g.length) h else some (some (.int (-1 : Int32)), h)) := by
  have h5 := hg.2.2.2.2.1
  have c1 := hc.1
  have hne : ¬ (if c < g.length then nI (g.getD c 0) else -1) = nI n := by
    intro q
    split at q
    · rename_i h1
      have := hs c h1
      exact hm ((Pl.mem ha hc).mpr ⟨h1, (nI_eq (by omega) (by omega)).mp q⟩)
    · exact nI_ne_m1 (by omega) q
  rw [f_Gr_insert_eq, cI_of hg.is (gr_placeOf (by omega) hg hs hn hc), cI_of hg.is (gr_at hg (by omega)), if_neg hne, hg.cnt, Option.bind_some, Option.bind_some]
/-- insert(n): there are 30 -/
theorem gr_insertF {G a q n : Nat} {h : pH} {g : List Nat} (hG : 40 ≤ G) (hg : Gr h a q g) (ha : Asc g) (hs : Sm g) (hn : n < 2 ^ 20) (hm : n ∉ g) (hl : g.length = 30) : f_Gr_insert G a (nI n) h = some (some (.int (-1)), h) := by
  obtain ⟨c, hc⟩ := Pl.ex ha n
  rw [gr_insertN hG hg ha hs hn hm hc, hl, if_neg (by decide)]
/-- insert(n): a number more -/
theorem gr_insert1 {G a q n : Nat} {h : pH} {g : List Nat} (hG : 40 ≤ G) (hg : Gr h a q g) (ha : Asc g) (hs : Sm g) (hn : n < 2 ^ 20) (hm : n ∉ g) (hl : g.length < 30) : ∃ h2 : pH, f_Gr_insert G a (nI n) h = some (some (.int 1), h2) ∧ Ch h h2 (fun x => x = a ∨ x = q) ∧ Gr h2 a q (gIns n g) := by
  obtain ⟨c, hc⟩ := Pl.ex ha n
  have hN := gr_insertN hG hg ha hs hn hm hc
  obtain ⟨r1, r2, r3, r4, r5, f, r6, r7⟩ := hg
  obtain ⟨d, hd⟩ : ∃ d, g.length = c + d := ⟨g.length - c, by have := hc.1; omega⟩
  have hlp := ins_loop (G := G) (n := n) (c := c) r1 r2 r3 r4 hl d G f (by omega) (by omega)
  rw [hU_id r6] at hlp
  refine ⟨_, (hN.trans (by rw [if_pos (show nI g.length < 30 from nI_lt (b := 30) hl (by omega)), hd])).trans hlp, (Ch.u (Or.inr rfl)).tr (Ch.u (Or.inl rfl)), ?_⟩
  · rw [← insL_eq ha hc hm]
    refine ⟨r1, r2, r3, ?_, ?_, upd (shU f c d) c (nI n), ?_, fun i hi => ?_⟩
    · rw [hU_s, insL_len hc.1]
    · rw [insL_len hc.1]; omega
    · rw [hU_n _ _ (Ne.symm r3), hU_s]
    · rw [insL_len hc.1] at hi
      rw [insL_get hc.1]
      unfold upd shU
      by_cases h1 : i = c
      · rw [if_pos h1, if_neg (by omega), if_pos h1]
      · rw [if_neg h1]
        by_cases h2 : i < c
        · rw [if_neg (by omega), if_pos h2]; exact r7 i (by omega)
        · rw [if_pos (by omega), if_neg h2, if_neg h1]; exact r7 (i - 1) (by omega)
