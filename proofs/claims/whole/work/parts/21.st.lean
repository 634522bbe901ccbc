/-! THE CLAIM, out of the law's pure text -/
def zH0 : pH := ([], fun _ => .inr (0, []))
/-- what is left: the law's pure text comes to 1, for every script -/
def zG : Nat := 2 ^ 60
def zText : Prop := ∀ (L : Nat) (xs : Nat → Int32), L ≤ 2560 → p_La_law zG L xs zH0
theorem zTg_in {w : Cond} (h : w ∈ zTg) : w ∈ lw_tbl := (List.mem_filter.mp h).1
theorem zN_in : ∀ w ∈ zN, w ∈ lw_tbl := by decide +kernel
theorem z_arr {s : State} {args : Array Value} {ty : FieldType} (hp : ∀ C, ty ≠ .object C) (h : (Cond.arrayClass ty).before args s = true) : ∃ cA : ClassId, ArrOfT s cA ty ∧ va_RA s cA ty := by
  obtain ⟨c, k, comp, h1, h2, h3⟩ := Cond.arrayClass_spec h
  refine ⟨c, fun n z => ⟨fun k9 h9 => (by cases h9), k, h2, comp, h3⟩, ?_⟩
  cases ty with
  | object C => exact absurd rfl (hp C)
  | _ => exact h1
set_option maxRecDepth 100000 in
set_option maxHeartbeats 4000000 in
theorem whole_start {p : Program} {e : Env} {s : State} {m : MethodId} {below : List Frame} {meth : Method} {c : Code} (l : Launch) (hl0 : l.stackTraces = false) {b L : Nat} {xs : Nat → Int32} (hE : p_La_law zG L xs zH0) (C0 : lw_At p s m meth c b L xs) : W p l e room_1 s m #[Value.ref b] below meth c s.heap [] 0 0 (lw_Z below #[Value.ref b] s) (entryFrame m ([Value.ref b] : List Value).toArray 7) := by
  obtain ⟨hx, hb, hr, hml, hown, hts, hX, hbl, hlocks, hgv⟩ := id C0
  have hs := flat_of_before _ hgv
  have hz : ∀ w ∈ zTg, w.before #[Value.ref b] s = true := fun w h9 => hts w (zTg_in h9)
  obtain ⟨c0, iS0, hKn0⟩ := u_known (C := nR0) (T := nT0) (N := 2) (n := 2) hz zin0 (hz _ zt_69)
  obtain ⟨c1, iS1, hKn1⟩ := u_known (C := nR1) (T := nT1) (N := 8) (n := 8) hz zin1 (hz _ zt_83)
  obtain ⟨c2, iS2, hKn2⟩ := u_known (C := nR2) (T := nT2) (N := 6) (n := 6) hz zin2 (hz _ zt_119)
  obtain ⟨c3, iS3, hKn3⟩ := u_known (C := nR3) (T := nT3) (N := 9) (n := 9) hz zin3 (hz _ zt_60)
  obtain ⟨c4, iS4, hKn4⟩ := u_known (C := nR4) (T := nT4) (N := 19) (n := 19) hz zin4 (hz _ zt_675)
  obtain ⟨dC, dI, hKc⟩ : ∃ (dC : Nat → ClassId) (dI : Nat → Nat → Nat), ∀ (k : Nat) (q : vw_C), zcl[k]? = some q → u_Kn s q.1 q.2.1 q.2.2 (dC k) (dI k) := by
    refine ⟨fun k => if k = 0 then c0 else if k = 1 then c1 else if k = 2 then c2 else if k = 3 then c3 else c4, fun k => if k = 0 then iS0 else if k = 1 then iS1 else if k = 2 then iS2 else if k = 3 then iS3 else iS4, ?_⟩
    intro k q hq
    match k, hq with
    | 0, hq => cases hq; exact hKn0
    | 1, hq => cases hq; exact hKn1
    | 2, hq => cases hq; exact hKn2
    | 3, hq => cases hq; exact hKn3
    | 4, hq => cases hq; exact hKn4
    | k + 5, hq => simp [zcl] at hq
  have hAO : zAO s := ⟨hts (.arrayOver (.object "MergeGraphs$Graph")) (List.mem_of_getElem? (i := 68) (by decide +kernel)), hts (.arrayOver (.array .long)) (List.mem_of_getElem? (i := 91) (by decide +kernel))⟩
  obtain ⟨a0, hA0⟩ := z_arr (fun C h9 => by cases h9) (hz (.arrayClass .int) zt_81)
  obtain ⟨a1, hA1⟩ := z_arr (fun C h9 => by cases h9) (hz (.arrayClass .long) zt_117)
  obtain ⟨a2, hA2⟩ : ∃ cA : ClassId, ArrOfT s cA (.object "MergeGraphs$Graph") ∧ va_RA s cA (.object "MergeGraphs$Graph") := by
    obtain ⟨comp, c9, k9, h1, h2, h3, h4, h5⟩ := Cond.arrayOver_spec hAO.1
    exact ⟨c9, fun n z => ⟨fun k8 h8 => (by cases h8), k9, h3, comp, h4⟩, k9, comp, h3, h4, h1, h5⟩
  obtain ⟨a3, hA3⟩ : ∃ cA : ClassId, ArrOfT s cA (.array .long) ∧ va_RA s cA (.array .long) := by
    obtain ⟨comp, c9, k9, h1, h3, h4, h5⟩ := Cond.arrayOver_specA hAO.2
    exact ⟨c9, fun n z => ⟨fun k8 h8 => (by cases h8), k9, h3, comp, h4⟩, h5⟩
  obtain ⟨cT, e0, e1, e2, e3⟩ : ∃ cT : Nat → ClassId, cT 0 = a0 ∧ cT 1 = a1 ∧ cT 2 = a2 ∧ cT 3 = a3 := ⟨fun k => if k = 0 then a0 else if k = 1 then a1 else if k = 2 then a2 else a3, rfl, rfl, rfl, rfl⟩
  subst e0 e1 e2 e3
  have hK : va_K (dC, dI) zcl (zty cT) s := by
    refine ⟨hKc, fun k q hq => ?_⟩
    match k, hq with
    | 0, hq => cases hq; exact hA0
    | 1, hq => cases hq; exact hA1
    | 2, hq => cases hq; exact hA2
    | 3, hq => cases hq; exact hA3
    | k + 4, hq => simp [zty] at hq
  have hN : zNw s := by
    intro w hw
    have h9 := hts w (zN_in w hw)
    rcases zN_form w hw with ⟨_, _, _, _, rfl⟩ | ⟨_, _, rfl⟩ | ⟨_, rfl⟩
    · exact va_Nw.of rfl h9
    · exact va_Nw.of rfl h9
    · exact va_Nw.of rfl h9
  have hnA : ∀ a : Nat, a < s.heap.size → ¬ va_A (zw cT zH0) s.heap.size a := fun a ha h9 => by
    have := zA_nil (h0 := zH0) rfl h9
    omega
  have hTh : zThr (va_A (zw cT zH0) s.heap.size) s s.heap := by
    refine ⟨vx_Zqof (args := #[Value.ref b]) (hts _ (List.mem_of_getElem? (i := 213) (by decide +kernel))) (hts _ (List.mem_of_getElem? (i := 53) (by decide +kernel))) (hs _ (by decide +kernel)) hnA, vx_Zqof (args := #[Value.ref b]) (hts _ (List.mem_of_getElem? (i := 215) (by decide +kernel))) (hts _ (List.mem_of_getElem? (i := 53) (by decide +kernel))) (hs _ (by decide +kernel)) hnA, ?_⟩
    have one : ∀ (k : Nat) (tx : String), (Cond.stringRef "MergeGraphs" k tx) ∈ lw_tbl → (Cond.exactly (.string "MergeGraphs" k) "java/lang/String").before #[Value.ref b] s = true → ∃ sa : Nat, vk_R "MergeGraphs" k tx sa s := by
      intro k tx h1 h2
      obtain ⟨a, c, cA, kA, q1, -⟩ := Cond.exactly_spec h2
      exact ⟨a, vk_R.of (A := #[Value.ref b]) (hts _ h1) q1⟩
    intro q hq
    simp only [zStr, List.mem_cons, List.not_mem_nil, or_false] at hq
    rcases hq with rfl | rfl | rfl | rfl | rfl | rfl
    · exact one 164 "there is no such graph" (List.mem_of_getElem? (i := 226) (by decide +kernel)) (hs _ (by decide +kernel))
    · exact one 168 "there is no such term" (List.mem_of_getElem? (i := 265) (by decide +kernel)) (hs _ (by decide +kernel))
    · exact one 171 "there is no such verb" (List.mem_of_getElem? (i := 272) (by decide +kernel)) (hs _ (by decide +kernel))
    · exact one 89 "there is no such what" (List.mem_of_getElem? (i := 343) (by decide +kernel)) (hs _ (by decide +kernel))
    · exact one 152 "there is no such fact" (List.mem_of_getElem? (i := 354) (by decide +kernel)) (hs _ (by decide +kernel))
    · exact one 143 "there is no such clash" (List.mem_of_getElem? (i := 636) (by decide +kernel)) (hs _ (by decide +kernel))
  have hNc : zNc s := va_Nc.of (hs _ (by decide +kernel))
  have hP : va_P (dC, dI) zcl (zw cT zH0) s.heap := fun k q h9 => by simp [zw, va_pl, zH0] at h9
  have hD : va_D (va_A (zw cT zH0) s.heap.size) (zw cT zH0) := ⟨fun i j x y h9 => by simp [zw, va_pl, zH0] at h9, fun k q h9 => by simp [zw, va_pl, zH0] at h9⟩
  have hl := lv_entry ([.ref b]) (n := 7) (Nat.le_of_ble_eq_true rfl)
  rw [lg_entry_eq]
  generalize (lg_sl ([.ref b]) ++ List.replicate (7 - (lg_sl ([.ref b])).length) Slot.unset).toArray = ls at hl ⊢
  refine v_room (R' := zRoom 1680 601024 7293034) (by decide) (by decide) (by decide) (by decide) ?_
  exact w_La_law (X := (p, l, e, s, m, #[Value.ref b], below, meth, c, (dC, dI), cT, zH0, lw_Z below #[Value.ref b] s, 601024, 7293034)) (b := b) ⟨⟨b, rfl⟩, rfl, rfl, rfl, rfl⟩ ⟨hTh, hl0, hNc, hAO⟩ ⟨hX, hbl, rfl⟩ ⟨Nat.le_refl _, Nat.le_refl _⟩ zH0 hE ⟨hx, hb, hml, hown, hz, hK, hN, hr, hlocks⟩ s.heap [] ls ⟨hP, hD, va_S.rf⟩ hl
