/-- the exceptions: 1 IndexOutOfBoundsException, else IllegalArgumentException -/
def xName (k : Nat) : String := if k = 1 then "java/lang/IndexOutOfBoundsException" else "java/lang/IllegalArgumentException"
/-- how a call ends that may throw: .inl kind, or .inr what it returns; and the heap behind it -/
abbrev pT : Type := (Nat ⊕ Option Value) × pH
def zStr : List (Nat × String) := [(164, "there is no such graph"), (168, "there is no such term"), (171, "there is no such verb"), (89, "there is no such what"), (152, "there is no such fact"), (143, "there is no such clash")]
def zThr (A : Nat → Prop) (U : State) (H : Heap) : Prop := vx_Zq Bundle.tN "UNASSIGNED_STACK" Bundle.steD A U H ∧ vx_Zq Bundle.tN "SUPPRESSED_SENTINEL" Bundle.listD A U H ∧ ∀ q ∈ zStr, ∃ sa : Nat, vk_R "MergeGraphs" q.1 q.2 sa U
theorem zThr.warm {A : Nat → Prop} {s U : State} {H : Heap} (hW : s.WarmedH U.vm) (h : zThr A s H) : zThr A U H := ⟨vx_Zq.moved hW.alike h.1, vx_Zq.moved hW.alike h.2.1, fun q hq => by obtain ⟨sa, h9⟩ := h.2.2 q hq; exact ⟨sa, vk_R.warm hW h9⟩⟩
theorem zThr.same {A : Nat → Prop} {u U : State} {H : Heap} (hv : u.vm = U.vm) (h : zThr A u H) : zThr A U H := ⟨vx_Zq.moved (hv ▸ Vm.Alike.refl u.vm) h.1, vx_Zq.moved (hv ▸ Vm.Alike.refl u.vm) h.2.1, fun q hq => by obtain ⟨sa, h9⟩ := h.2.2 q hq; exact ⟨sa, vk_R.same hv.symm h9⟩⟩
theorem zThr.kept {A : Nat → Prop} {U : State} {H H1 : Heap} (h : zThr A U H) (hq : ∀ a : Nat, a < H.size → ¬ A a → H1[a]? = H[a]?) : zThr A U H1 := ⟨vx_Zq.kept h.1 hq, vx_Zq.kept h.2.1 hq, h.2.2⟩
theorem zThr.narrow {A B : Nat → Prop} {U : State} {H : Heap} (h : zThr A U H) (hAB : ∀ q, B q → A q) : zThr B U H := ⟨vx_Zq.narrow h.1 hAB, vx_Zq.narrow h.2.1 hAB, h.2.2⟩
def zPreT (D : va_G) (cT : Nat → ClassId) (sz : Nat) (h : pH) (U : State) : Prop := zPre D cT sz h U ∧ zThr (va_A (zw cT h) sz) U U.heap
def zPostT (D : va_G) (cT : Nat → ClassId) (sz : Nat) (h : pH) (r : pT) : Array Value → State → Outcome → State → Prop := fun _ st oc t =>
  (∃ v : Option Value, r.1 = .inr v ∧ oc = .returned v ∧ va_P D zcl (zw cT r.2) t.heap ∧ va_D (va_A (zw cT h) sz) (zw cT r.2)) ∧ va_F (va_A (zw cT h) sz) st t
def zXC (D : va_G) (cT : Nat → ClassId) (sz : Nat) (h : pH) (r : pT) : String → State → State → Prop := fun E st t =>
  (∃ k : Nat, r.1 = .inl k ∧ E = xName k ∧ va_P D zcl (zw cT r.2) t.heap ∧ va_D (va_A (zw cT h) sz) (zw cT r.2)) ∧ va_F (va_A (zw cT h) sz) st t
/-- THE CONTRACT of a method that may throw -/
def zMetT (l : Launch) (y : MethodName) (M : zM) (mc ms : Nat) (av : List Value) (h : pH) (r : pT) : Prop := ∀ (D : va_G) (cT : Nat → ClassId) (sz : Nat),
  vx_Met l y (.code y M.2.1 M.2.2.1 M.2.2.2.1 :: zTg) (zRoom M.2.2.2.2 mc ms) (va_Pc av (zPreT D cT sz h)) (zPostT D cT sz h r) (zXC D cT sz h r) mc ms (va_A (zw cT h) sz)
def zTOK (X : zX) : Prop := match X with
  | (_, l, _, s, _, _, _, _, c, _, cT, h0, _, _, _) => zThr (va_A (zw cT h0) s.heap.size) s s.heap ∧ l.stackTraces = false ∧ ∀ x ∈ c.exceptionTable.toList, False
def zQx (X : zX) (r : pT) : Prop := match X with
  | (_, _, _, s, _, args, below, _, _, D, cT, h0, Q, mc, ms) => Q = vx_MQ below (zPostT D cT s.heap.size h0 r) (zXC D cT s.heap.size h0 r) args s mc ms (va_A (zw cT h0) s.heap.size)
section XS
variable {X : zX} {M : zM} {k n : Nat} {h : pH} {pc : Nat} {lv lv2 : List (Nat × Value)} {st : List Value}
theorem x_ireturn {v : Int32} {r : pT} (hQ : zQx X r) (hr : M.2.2.2.1 = some .int) (hkn : zkn X k n) (hd : decode M.2.1 pc = .ok (.ireturn, 1)) (E : some ((.inr (some (.int v)), h) : pT) = some r) : Z X M k n h pc lv [.int v] := by
  intro hX H locs ls hR hl
  obtain ⟨p, l, e, s, m, args, below, meth, c, D, cT, h0, Q, mc, ms⟩ := X
  have e : r = (.inr (some (.int v)), h) := (Option.some.inj E).symm
  subst e
  have hQ : Q = _ := hQ
  subst hQ
  refine W.widen hkn.1 hkn.2 (vx_ret ?_)
  exact W.iret hX.1 hX.2.1 (hX.2.2.2.2.2.2.2.1.trans hr) (fun t ht hW => ⟨⟨_, rfl, rfl, by rw [ht]; exact hR.1, hR.2.1⟩, hR.2.2.F ht⟩) hR.2.2.2.2 hd (hlocks := hX.2.2.2.2.2.2.2.2)
theorem x_lreturn {v : Int64} {r : pT} (hQ : zQx X r) (hr : M.2.2.2.1 = some .long) (hkn : zkn X k n) (hd : decode M.2.1 pc = .ok (.lreturn, 1)) (E : some ((.inr (some (.long v)), h) : pT) = some r) : Z X M k n h pc lv [.long v] := by
  intro hX H locs ls hR hl
  obtain ⟨p, l, e, s, m, args, below, meth, c, D, cT, h0, Q, mc, ms⟩ := X
  have e : r = (.inr (some (.long v)), h) := (Option.some.inj E).symm
  subst e
  have hQ : Q = _ := hQ
  subst hQ
  refine W.widen hkn.1 hkn.2 (vx_ret ?_)
  exact W.lret hX.1 hX.2.1 (hX.2.2.2.2.2.2.2.1.trans hr) (fun t ht hW => ⟨⟨_, rfl, rfl, by rw [ht]; exact hR.1, hR.2.1⟩, hR.2.2.F ht⟩) hR.2.2.2.2 hd (hlocks := hX.2.2.2.2.2.2.2.2)
theorem x_zreturn {v : Int32} {r : pT} (hQ : zQx X r) (hr : M.2.2.2.1 = some .boolean) (hkn : zkn X k n) (hd : decode M.2.1 pc = .ok (.ireturn, 1)) (E : (if isZ v = true then some ((.inr (some (.int v)), h) : pT) else none) = some r) : Z X M k n h pc lv [.int v] := by
  intro hX H locs ls hR hl
  have hz : isZ v = true := by
    split at E
    · assumption
    · cases E
  rw [if_pos hz] at E
  obtain ⟨p, l, e, s, m, args, below, meth, c, D, cT, h0, Q, mc, ms⟩ := X
  have e : r = (.inr (some (.int v)), h) := (Option.some.inj E).symm
  subst e
  have hQ : Q = _ := hQ
  subst hQ
  refine W.widen hkn.1 hkn.2 (vx_ret ?_)
  exact W.zret hX.1 hX.2.1 (hX.2.2.2.2.2.2.2.1.trans hr) (by rcases isZ_cases hz with rfl | rfl <;> rfl) (fun t ht hW => ⟨⟨_, rfl, rfl, by rw [ht]; exact hR.1, hR.2.1⟩, hR.2.2.F ht⟩) hR.2.2.2.2 hd (hlocks := hX.2.2.2.2.2.2.2.2)
theorem x_return {r : pT} (hQ : zQx X r) (hr : M.2.2.2.1 = none) (hkn : zkn X k n) (hd : decode M.2.1 pc = .ok (.return_, 1)) (E : some ((.inr none, h) : pT) = some r) : Z X M k n h pc lv [] := by
  intro hX H locs ls hR hl
  obtain ⟨p, l, e, s, m, args, below, meth, c, D, cT, h0, Q, mc, ms⟩ := X
  have e : r = (.inr none, h) := (Option.some.inj E).symm
  subst e
  have hQ : Q = _ := hQ
  subst hQ
  refine W.widen hkn.1 hkn.2 (vx_ret ?_)
  exact W.vret hX.1 hX.2.1 (hX.2.2.2.2.2.2.2.1.trans hr) (fun t ht hW => ⟨⟨_, rfl, rfl, by rw [ht]; exact hR.1, hR.2.1⟩, hR.2.2.F ht⟩) hR.2.2.2.2 hd (hlocks := hX.2.2.2.2.2.2.2.2)
theorem x_areturn {a : Nat} {C : String} {r : pT} (hQ : zQx X r) (hr : M.2.2.2.1 = some (.object C)) (hkn : zkn X k n) (hd : decode M.2.1 pc = .ok (.areturn, 1)) (E : some ((.inr (some (.ref a)), h) : pT) = some r) : Z X M k n h pc lv [.ref a] := by
  intro hX H locs ls hR hl
  obtain ⟨p, l, e, s, m, args, below, meth, c, D, cT, h0, Q, mc, ms⟩ := X
  have e : r = (.inr (some (.ref a)), h) := (Option.some.inj E).symm
  subst e
  have hQ : Q = _ := hQ
  subst hQ
  refine W.widen hkn.1 hkn.2 (vx_ret ?_)
  exact W.aret hX.1 hX.2.1 (hX.2.2.2.2.2.2.2.1.trans hr) (Or.inl ⟨_, rfl⟩) (Or.inr ⟨_, rfl⟩) (fun t ht hW => ⟨⟨_, rfl, rfl, by rw [ht]; exact hR.1, hR.2.1⟩, hR.2.2.F ht⟩) hR.2.2.2.2 hd (hlocks := hX.2.2.2.2.2.2.2.2)
/-- throw new E("text") -/
theorem x_throw {kd ik si ic : Nat} {text : String} {r : pT} (hQ : zQx X r) (hT : zTOK X) (E : some ((.inl kd, h) : pT) = some r)
    (hcls : Bundle.fit (xName kd) = true) (hw1 : Cond.classLink M.1 ik (xName kd) ∈ zTg) (hw2 : Cond.initialized (xName kd) ∈ zTg) (hs : (si, text) ∈ zStr) (hown : M.1 = "MergeGraphs")
    (hat1 : ∀ w ∈ (vx_atS M.1 ic (xName kd) ["java/lang/RuntimeException", "java/lang/Exception"]).filter goodWord, w ∈ zTg) (hat2 : ∀ w ∈ (vx_atS M.1 ic (xName kd) ["java/lang/RuntimeException", "java/lang/Exception"]).filter (fun w => !goodWord w), w ∈ zN)
    (hgood : ∀ w ∈ Cond.classLink M.1 ik (xName kd) :: Cond.initialized (xName kd) :: vx_atS M.1 ic (xName kd) ["java/lang/RuntimeException", "java/lang/Exception"], vx_ot w = true)
    (d0 : decode M.2.1 pc = .ok (.new ik, 3)) (d3 : decode M.2.1 (pc + 3) = .ok (.dup, 1)) (d4 : decode M.2.1 (pc + 4) = .ok (.ldc si, 2)) (d6 : decode M.2.1 (pc + 6) = .ok (.invokespecial ic, 3)) (d9 : decode M.2.1 (pc + 9) = .ok (.athrow, 1))
    (hdep : 6 ≤ M.2.2.2.2) (hkn : zkn X (k + 1) (n + 6)) (hst : (st.map fun v => v.category).sum ≤ 8) : Z X M k n h pc lv st := by
  intro hX H locs ls hR hl
  obtain ⟨p, l, e, s, m, args, below, meth, c, D, cT, h0, Q, mc, ms⟩ := X
  have e : r = (.inl kd, h) := (Option.some.inj E).symm
  subst e
  have hQ : Q = _ := hQ
  subst hQ
  obtain ⟨hTh, hst0, hnt⟩ := hT
  obtain ⟨sa, hsa⟩ := hTh.2.2 _ hs
  have hsize : ls.size = c.maxLocals := hl.1.trans hX.2.2.1.symm
  refine vx_throwS (own := M.1) (cls := xName kd) (text := text) (names := ["java/lang/RuntimeException", "java/lang/Exception"]) (sa := sa) hX.1 hX.2.1 hst0 hX.2.2.2.1 hcls (by decide +kernel) (hX.2.2.2.2.1 _ hw1) (hX.2.2.2.2.1 _ hw2) (by rw [hown]; exact hsa) (vx_hat (fun w h9 => hX.2.2.2.2.1 _ (hat1 w h9)) hat2 (fun w h9 => ?_)) hgood hTh.1 hTh.2.1 hR.2.2 hsize d0 d3 d4 d6 d9 (fun x h9 => (hnt x h9).elim) ?_ ?_ (Nat.le_trans hkn.1 (Nat.le_refl _)) (Nat.le_trans hkn.2 (Nat.le_refl _)) hX.2.2.2.2.2.2.2.2 (fun t ht h1 h2 => ?_) hR.2.2.2.2 hkn.1 hkn.2
  · rcases zN_form w h9 with ⟨a, i, x, b, rfl⟩ | ⟨a, b, rfl⟩ | ⟨x, rfl⟩
    · exact va_Nw.use rfl (hX.2.2.2.2.2.2.1 _ h9)
    · exact va_Nw.use rfl (hX.2.2.2.2.2.2.1 _ h9)
    · exact va_Nw.use rfl (hX.2.2.2.2.2.2.1 _ h9)
  · show 2 + 3 < M.2.2.2.2
    omega
  · show _ + (13 * (2 + 1) + 43) ≤ 50 * M.2.2.2.2
    omega
  · refine ⟨⟨kd, rfl, rfl, hR.1.kept (fun j q hq => h2 _ ((hR.1 j q hq).lt)), hR.2.1⟩, Nat.le_trans hR.2.2.1 h1, fun q h3 h4 => ?_⟩
    rw [h2 q (Nat.lt_of_lt_of_le h3 hR.2.2.1)]
    exact hR.2.2.2.1 q h3 h4
theorem zPreT_blind {D : va_G} {cT : Nat → ClassId} {sz : Nat} {av : List Value} : FrameBlind (va_Pc av (zPreT D cT sz h)) := by
  intro a U g mk q
  obtain ⟨q1, q2, q3⟩ := q
  have q4 := zPre_blind (h := h) (D := D) (cT := cT) (sz := sz) (av := av) a U g mk ⟨q1, q2⟩
  exact ⟨q1, q4.2, zThr.same (u := U) (U := U.calling g mk a) rfl q3⟩
/-- what a call that may throw leaves -/
theorem x_back {rc r : pT} {rest av : List Value} {mc1 ms1 : Nat} (hQ : zQx X r) (hT : zTOK X) (hkn : zkn X (k + mc1) (n + ms1)) (hk0 : zOK X M → ∀ (H : Heap) (locs : List Loc) (ls : Array Slot), zR X h H locs → lv_has ls M.2.2.1 lv → match X with
    | (p, l, e, s, m, args, below, meth, c, D, cT, _, _, mc, ms) => vx_Run p l e (zRoom M.2.2.2.2 mc ms) s m args below meth c H locs k n mc1 ms1 (F0 m pc ls st) rest (zPostT D cT H.size h rc av.toArray) (zXC D cT H.size h rc) (va_A (zw cT h) H.size))
    (kx : ∀ kd : Nat, rc.1 = .inl kd → r = (.inl kd, rc.2)) (kk : ∀ v : Option Value, rc.1 = .inr v → Z X M (k + mc1) (n + ms1) rc.2 (pc + 3) lv (v.toList ++ rest)) : Z X M k n h pc lv st := by
  intro hX H locs ls hR hl
  have run := hk0 hX H locs ls hR hl
  have kk := fun v e => kk v e hX
  obtain ⟨p, l, e, s, m, args, below, meth, c, D, cT, h0, Q, mc, ms⟩ := X
  have hS := hR.2.2
  have hF : ∀ q, va_A (zw cT h) H.size q → va_A (zw cT h0) s.heap.size q := by
    intro q hq
    rcases hq with ⟨j, x, hx⟩ | hq
    · exact hR.2.1.2 j _ hx
    · exact Or.inr (Nat.le_trans hS.1 hq)
  intro T hT0 XX
  rcases run T hT0 XX with ⟨v, st0, t, T', L, e0, X', hL, e1, e2, ⟨⟨v2, hv2, ho, hP1, hD1⟩, hz, hkp⟩, go⟩ | ⟨q, st0, t, T', L, E, ce, e0, X', hL, e1, e2, ⟨⟨kd, hkd, rfl, hP1, hD1⟩, hz, hkp⟩, hce, hcv, hcl, go⟩
  · cases ho
    rw [e0] at hz hkp
    obtain ⟨t2, a1, b1⟩ := kk _ hv2 T'.heap (locs ++ L) ls ⟨by rw [e1]; exact hP1, hD1.weaken (fun _ _ _ hq => hF _ hq), Nat.le_trans hS.1 (by rw [e1]; exact hz), fun q h1 h2 => by rw [e1, hkp q (Nat.lt_of_lt_of_le h1 hS.1) (fun z => h2 (hF q z))]; exact hS.2.1 q h1 h2, fun q hq => by
        rcases List.mem_append.mp hq with hq | hq
        · exact hS.2.2 q hq
        · exact hF _ (hL q hq)⟩ hl T' rfl X'
    exact ⟨t2, go t2 a1, b1⟩
  · rw [e0] at hz hkp
    have er := kx kd hkd
    subst er
    have hQ : Q = _ := hQ
    subst hQ
    obtain ⟨hTh, hst0, hnt⟩ := hT
    have out : vx_W p l e (zRoom M.2.2.2.2 mc ms) s m args below meth c T'.heap (locs ++ L) (k + mc1) (n + ms1) (vx_MQ below (zPostT D cT s.heap.size h0 (.inl kd, rc.2)) (zXC D cT s.heap.size h0 (.inl kd, rc.2)) args s mc ms (va_A (zw cT h0) s.heap.size)) (F0 m pc ls rest) q :=
      vx_out (E := xName kd) (fun x h9 => (hnt x h9).elim) hX.2.2.2.2.2.2.2.2 (by rw [e1]; exact hce) hcv hcl (fun u hu _ => ⟨⟨kd, rfl, rfl, by rw [hu, e1]; exact hP1, hD1.weaken (fun _ _ _ hq => hF _ hq)⟩, by rw [hu, e1]; exact Nat.le_trans hS.1 hz, fun q h1 h2 => by rw [hu, e1, hkp q (Nat.lt_of_lt_of_le h1 hS.1) (fun z => h2 (hF q z))]; exact hS.2.1 q h1 h2⟩) (fun q hq => by
        rcases List.mem_append.mp hq with hq | hq
        · exact hS.2.2 q hq
        · exact hF _ (hL q hq)) hkn.1 hkn.2
    obtain ⟨t2, a1, b1⟩ := out T' rfl X'
    exact ⟨t2, go.trans a1, b1⟩
theorem zRoom_ok2 {d d2 ml mc ms m1 m2 : Nat} (h1 : d2 < d) (h2 : ml ≤ 31) : (zRoom d2 m1 m2).frames + 1 ≤ (zRoom d mc ms).frames ∧ 8 + (ml + 11) + (zRoom d2 m1 m2).locals ≤ (zRoom d mc ms).locals := by
  refine ⟨h1, ?_⟩
  show 8 + (ml + 11) + 50 * d2 ≤ 50 * d
  omega
theorem x_invS {i : Nat} {y : MethodName} {Mc : zM} {av rest : List Value} {rc r : pT} {mc1 ms1 : Nat} (hQ : zQx X r) (hT : zTOK X) (hw : Cond.methodLink M.1 i y ∈ zTg ∧ Cond.static y ∈ zTg ∧ Cond.initialized y.cls ∈ zTg) (hcode : Cond.code y Mc.2.1 Mc.2.2.1 Mc.2.2.2.1 ∈ zTg) (hy : y.cls ≠ "java/lang/invoke/MethodHandle" ∧ y.cls ≠ "java/lang/invoke/VarHandle" ∧ (parseMethodDescriptor y.desc).map (fun d => d.parameters.length) = some av.length) (hdp : Mc.2.2.2.2 < M.2.2.2.2) (hml : Mc.2.2.1 ≤ 31) (hkn : zkn X (k + mc1) (n + ms1)) (hst : st = av.reverse ++ rest) (hrest : (rest.map fun v => v.category).sum ≤ 8) (hd : decode M.2.1 pc = .ok (.invokestatic i, 3)) (hM : zMetT (zl X) y Mc mc1 ms1 av h rc)
    (kx : ∀ kd : Nat, rc.1 = .inl kd → r = (.inl kd, rc.2)) (kk : ∀ v : Option Value, rc.1 = .inr v → Z X M (k + mc1) (n + ms1) rc.2 (pc + 3) lv (v.toList ++ rest)) : Z X M k n h pc lv st := by
  have hT1 := hT
  refine x_back (av := av) hQ hT hkn (fun hX H locs ls hR hl => ?_) kx kk
  obtain ⟨p, l, e, s, m, args, below, meth, c, D, cT, h0, Q, mc, ms⟩ := X
  have hG : GoodIn zTg (va_wsS M.1 i y (.code y Mc.2.1 Mc.2.2.1 Mc.2.2.2.1 :: zTg)) := by
    intro w h9
    rcases List.mem_append.mp h9 with h9 | h9
    · rcases List.mem_cons.mp h9 with rfl | h9
      · exact zTg_good hw.1
      · rcases List.mem_cons.mp h9 with rfl | h9
        · exact zTg_good hw.2.1
        · rcases List.mem_cons.mp h9 with rfl | h9
          · exact zTg_good hw.2.2
          · cases h9
    · rcases List.mem_cons.mp h9 with rfl | h9
      · exact zTg_good hcode
      · exact zTg_good h9
  have hF : ∀ q, va_A (zw cT h) H.size q → va_A (zw cT h0) s.heap.size q := by
    intro q hq
    rcases hq with ⟨j, x, hx⟩ | hq
    · exact hR.2.1.2 j _ hx
    · exact Or.inr (Nat.le_trans hR.2.2.1 hq)
  exact vx_runS ⟨hX.1, hX.2.1, hX.2.2.1, hX.2.2.2.1, hX.2.2.2.2.1⟩ (hM D cT H.size) (va_cwS av.length hX.2.2.2.2.1 hG rfl rfl rfl hy (zRoom_ok2 hdp hml)) ⟨zPreT_blind, fun U hU hW => ⟨rfl, ⟨by rw [hU], by rw [hU]; exact hR.1, va_K.moved hW.alike hX.2.2.2.2.2.1, zNw.warm hW hX.2.2.2.2.2.2.1, hR.2.1.weaken (fun _ _ _ _ => trivial)⟩, by rw [hU]; exact (zThr.warm hW (hT1.1.kept hR.2.2.2.1)).narrow hF⟩⟩ rfl rfl hl.1 hst (lv_room hrest) hd ⟨hkn.1, hkn.2⟩
theorem x_invV {i ci b : Nat} {y : MethodName} {C : String} {T : u_T} {N : Nat} {Mc : zM} {av rest : List Value} {rc r : pT} {mc1 ms1 : Nat} (hQ : zQx X r) (hT : zTOK X) (hc : zcl[ci]? = some (C, T, N)) (hyC : y.cls = C) (hw : Cond.methodLink M.1 i y ∈ zTg ∧ Cond.instanceMethod y ∈ zTg ∧ Cond.selects C y y ∈ zTg ∧ Cond.initialized C ∈ zTg) (hcode : Cond.code y Mc.2.1 Mc.2.2.1 Mc.2.2.2.1 ∈ zTg) (hy : y.cls ≠ "java/lang/invoke/MethodHandle" ∧ y.cls ≠ "java/lang/invoke/VarHandle" ∧ (parseMethodDescriptor y.desc).map (fun d => d.parameters.length) = some av.length) (hdp : Mc.2.2.2.2 < M.2.2.2.2) (hml : Mc.2.2.1 ≤ 31) (hkn : zkn X (k + mc1) (n + ms1)) (hst : st = av.reverse ++ .ref b :: rest) (hrest : (rest.map fun v => v.category).sum ≤ 8) (hd : decode M.2.1 pc = .ok (.invokevirtual i, 3)) (hb : oC h b ci = true) (hM : zMetT (zl X) y Mc mc1 ms1 (.ref b :: av) h rc)
    (kx : ∀ kd : Nat, rc.1 = .inl kd → r = (.inl kd, rc.2)) (kk : ∀ v : Option Value, rc.1 = .inr v → Z X M (k + mc1) (n + ms1) rc.2 (pc + 3) lv (v.toList ++ rest)) : Z X M k n h pc lv st := by
  have hT1 := hT
  refine x_back (av := .ref b :: av) hQ hT hkn (fun hX H locs ls hR hl => ?_) kx kk
  obtain ⟨hbL, fs, hf⟩ := oC_some hb
  obtain ⟨p, l, e, s, m, args, below, meth, c, D, cT, h0, Q, mc, ms⟩ := X
  obtain ⟨q, hq⟩ := zw_at (cT := cT) hbL
  rw [hf] at hq
  have hG : GoodIn zTg (wsV M.1 i C y (.code y Mc.2.1 Mc.2.2.1 Mc.2.2.2.1 :: zTg)) := by
    intro w h9
    rcases List.mem_append.mp h9 with h9 | h9
    · rcases List.mem_cons.mp h9 with rfl | h9
      · exact zTg_good hw.1
      · rcases List.mem_cons.mp h9 with rfl | h9
        · exact zTg_good hw.2.1
        · rcases List.mem_cons.mp h9 with rfl | h9
          · exact zTg_good hw.2.2.1
          · rcases List.mem_cons.mp h9 with rfl | h9
            · exact zTg_good hw.2.2.2
            · cases h9
    · rcases List.mem_cons.mp h9 with rfl | h9
      · exact zTg_good hcode
      · exact zTg_good h9
  have hF : ∀ q, va_A (zw cT h) H.size q → va_A (zw cT h0) s.heap.size q := by
    intro q hq
    rcases hq with ⟨j, x, hx⟩ | hq
    · exact hR.2.1.2 j _ hx
    · exact Or.inr (Nat.le_trans hR.2.2.1 hq)
  exact vx_runV ⟨hX.1, hX.2.1, hX.2.2.1, hX.2.2.2.1, hX.2.2.2.2.1⟩ (hM D cT H.size) (cwV av.length hX.2.2.2.2.1 hG rfl rfl rfl ⟨hyC, hy⟩ (zRoom_ok2 hdp hml)) ⟨zPreT_blind, va_recv hX.2.2.2.2.2.1 hR.1 hc hq, fun U hU hW => ⟨rfl, ⟨by rw [hU], by rw [hU]; exact hR.1, va_K.moved hW.alike hX.2.2.2.2.2.1, zNw.warm hW hX.2.2.2.2.2.2.1, hR.2.1.weaken (fun _ _ _ _ => trivial)⟩, by rw [hU]; exact (zThr.warm hW (hT1.1.kept hR.2.2.2.1)).narrow hF⟩⟩ rfl rfl hl.1 hst (lv_room hrest) hd ⟨hkn.1, hkn.2⟩
theorem zMetT_of {l : Launch} {y : MethodName} {M : zM} {mc ms : Nat} {av : List Value} {h : pH} {r : pT} (hl0 : l.stackTraces = false) (hy : plainName y.cls = true) (hyM : y.cls = M.1) (hlen : (lg_sl av).length ≤ M.2.2.1)
    (body : ∀ X : zX, zTOK X → zQx X r → zkn X mc ms → zl X = l → Z X M 0 0 h 0 (lv_args 0 av) []) : zMetT l y M mc ms av h r := by
  intro D cT sz
  refine vx_ofW (cc := M.2.1) (maxL := M.2.2.1) (ret := M.2.2.2.1) hy rfl ?_
  intro p e s m args below meth c s₁ B hml hnt hv
  obtain ⟨rfl, ⟨hsz, hP, hK, hN, hD0⟩, hTh⟩ := hv
  have hts := atoms_spec (ws := .code y M.2.1 M.2.2.1 M.2.2.2.1 :: zTg) B.pre
  have hown : s.vm.findClass M.1 = some m.cls := by rw [← hyM]; exact findClass_of_methodNamed B.named
  subst hsz
  have hl := lv_entry av (n := M.2.2.1) hlen
  rw [lg_entry_eq]
  generalize (lg_sl av ++ List.replicate (M.2.2.1 - (lg_sl av).length) Slot.unset).toArray = ls at hl ⊢
  exact body (p, l, e, s, m, av.toArray, below, meth, c, D, cT, h, _, mc, ms) ⟨hTh, hl0, hnt⟩ rfl ⟨Nat.le_refl _, Nat.le_refl _⟩ rfl ⟨B.exec, B.bytes, hml, hown, fun w h9 => hts w (List.mem_cons_of_mem _ h9), hK, hN, B.returns, B.notSynchronized⟩ s.heap [] ls ⟨hP, hD0.self, va_S.rf⟩ hl
/-- calls that may throw, as the pure texts have them -/
def tI (g : Bool) (o : Option pT) (f : Int32 → pH → Option pT) : Option pT := if g = true then (match o with
  | some (.inr (some (.int v)), h1) => f v h1
  | some (.inl kd, h1) => some (.inl kd, h1)
  | _ => none) else none
def tR (g : Bool) (o : Option pT) (f : Nat → pH → Option pT) : Option pT := if g = true then (match o with
  | some (.inr (some (.ref v)), h1) => f v h1
  | some (.inl kd, h1) => some (.inl kd, h1)
  | _ => none) else none
def tV (g : Bool) (o : Option pT) (f : pH → Option pT) : Option pT := if g = true then (match o with
  | some (.inr none, h1) => f h1
  | some (.inl kd, h1) => some (.inl kd, h1)
  | _ => none) else none
theorem tI_some {g : Bool} {o : Option pT} {f : Int32 → pH → Option pT} {r : pT} (e : tI g o f = some r) : g = true ∧ ∃ rc : pT, o = some rc ∧ (∀ kd : Nat, rc.1 = .inl kd → r = (.inl kd, rc.2)) ∧ ∀ v : Option Value, rc.1 = .inr v → ∃ x : Int32, v = some (.int x) ∧ f x rc.2 = some r := by
  unfold tI at e
  split at e
  · rename_i hg
    refine ⟨hg, ?_⟩
    split at e
    · exact ⟨_, rfl, fun kd hk => (nomatch hk), fun v hv => by cases hv; exact ⟨_, rfl, e⟩⟩
    · cases e
      exact ⟨_, rfl, fun kd hk => by cases hk; rfl, fun v hv => (nomatch hv)⟩
    · cases e
  · cases e
theorem tR_some {g : Bool} {o : Option pT} {f : Nat → pH → Option pT} {r : pT} (e : tR g o f = some r) : g = true ∧ ∃ rc : pT, o = some rc ∧ (∀ kd : Nat, rc.1 = .inl kd → r = (.inl kd, rc.2)) ∧ ∀ v : Option Value, rc.1 = .inr v → ∃ x : Nat, v = some (.ref x) ∧ f x rc.2 = some r := by
  unfold tR at e
  split at e
  · rename_i hg
    refine ⟨hg, ?_⟩
    split at e
    · exact ⟨_, rfl, fun kd hk => (nomatch hk), fun v hv => by cases hv; exact ⟨_, rfl, e⟩⟩
    · cases e
      exact ⟨_, rfl, fun kd hk => by cases hk; rfl, fun v hv => (nomatch hv)⟩
    · cases e
  · cases e
theorem tV_some {g : Bool} {o : Option pT} {f : pH → Option pT} {r : pT} (e : tV g o f = some r) : g = true ∧ ∃ rc : pT, o = some rc ∧ (∀ kd : Nat, rc.1 = .inl kd → r = (.inl kd, rc.2)) ∧ ∀ v : Option Value, rc.1 = .inr v → v = none ∧ f rc.2 = some r := by
  unfold tV at e
  split at e
  · rename_i hg
    refine ⟨hg, ?_⟩
    split at e
    · exact ⟨_, rfl, fun kd hk => (nomatch hk), fun v hv => by cases hv; exact ⟨rfl, e⟩⟩
    · cases e
      exact ⟨_, rfl, fun kd hk => by cases hk; rfl, fun v hv => (nomatch hv)⟩
    · cases e
  · cases e
theorem zTOK_l (hT : zTOK X) : (zl X).stackTraces = false := by
  obtain ⟨p, l, e, s, m, args, below, meth, c, D, cT, h0, Q, mc, ms⟩ := X
  exact hT.2.1
theorem z_tswIn {x v : Int32} {dflt lo hi off : Int} {offs : Array Int} {len tgt : Nat} (hx : x = v) (hd : decode M.2.1 pc = .ok (.tableswitch dflt lo hi offs, len)) (h1 : ¬ v.toInt < lo) (h2 : ¬ hi < v.toInt) (ho : offs[(v.toInt - lo).toNat]? = some off) (ht : (pc : Int) + off = (tgt : Int)) (kk : Z X M k n h tgt lv st) : Z X M k n h pc lv (.int x :: st) := by
  subst hx
  intro hX H locs ls hR hl
  have kk := kk hX H locs ls hR hl
  obtain ⟨p, l, e, s, m, args, below, meth, c, D, cT, h0, Q, mc, ms⟩ := X
  exact lv_tableIn hX.1 hX.2.1 hd h1 h2 ho ht kk
theorem z_tswOut {x : Int32} {dflt lo hi : Int} {offs : Array Int} {len tgt : Nat} (hd : decode M.2.1 pc = .ok (.tableswitch dflt lo hi offs, len)) (h1 : x.toInt < lo ∨ hi < x.toInt) (ht : (pc : Int) + dflt = (tgt : Int)) (kk : Z X M k n h tgt lv st) : Z X M k n h pc lv (.int x :: st) := by
  intro hX H locs ls hR hl
  have kk := kk hX H locs ls hR hl
  obtain ⟨p, l, e, s, m, args, below, meth, c, D, cT, h0, Q, mc, ms⟩ := X
  exact lv_tableOut hX.1 hX.2.1 hd h1 ht kk
theorem tsw_out {x : Int32} (m : Nat) (hk : ∀ j : Nat, j ≤ m → ¬ x = Int32.ofNat j) : x.toInt < 0 ∨ (m : Int) < x.toInt := by
  rcases Int.lt_or_le x.toInt 0 with q | q
  · exact Or.inl q
  · refine Or.inr (Int.not_le.mp fun h9 => ?_)
    refine hk x.toInt.toNat (by omega) ?_
    have hlt := Int32.toInt_lt x
    apply Int32.toInt_inj.mp
    rw [Int32.toInt_ofNat_of_lt (by omega)]
    omega
theorem xf1 : Bundle.fit (xName 1) = true := by decide +kernel
theorem xf2 : Bundle.fit (xName 2) = true := by decide +kernel
theorem xg1 : ∀ w ∈ (vx_atS "MergeGraphs" 91 (xName 1) ["java/lang/RuntimeException", "java/lang/Exception"]).filter goodWord, w ∈ zTg := fun w h9 => List.mem_filter.mpr ⟨(show ∀ w ∈ (vx_atS "MergeGraphs" 91 (xName 1) ["java/lang/RuntimeException", "java/lang/Exception"]).filter goodWord, w ∈ lw_tbl by decide +kernel) w h9, (List.mem_filter.mp h9).2⟩
theorem xg2 : ∀ w ∈ (vx_atS "MergeGraphs" 170 (xName 2) ["java/lang/RuntimeException", "java/lang/Exception"]).filter goodWord, w ∈ zTg := fun w h9 => List.mem_filter.mpr ⟨(show ∀ w ∈ (vx_atS "MergeGraphs" 170 (xName 2) ["java/lang/RuntimeException", "java/lang/Exception"]).filter goodWord, w ∈ lw_tbl by decide +kernel) w h9, (List.mem_filter.mp h9).2⟩
theorem xn1 : ∀ w ∈ (vx_atS "MergeGraphs" 91 (xName 1) ["java/lang/RuntimeException", "java/lang/Exception"]).filter (fun w => !goodWord w), w ∈ zN := by decide +kernel
theorem xn2 : ∀ w ∈ (vx_atS "MergeGraphs" 170 (xName 2) ["java/lang/RuntimeException", "java/lang/Exception"]).filter (fun w => !goodWord w), w ∈ zN := by decide +kernel
theorem xo1 : ∀ w ∈ Cond.classLink "MergeGraphs" 87 (xName 1) :: Cond.initialized (xName 1) :: vx_atS "MergeGraphs" 91 (xName 1) ["java/lang/RuntimeException", "java/lang/Exception"], vx_ot w = true := by decide +kernel
theorem xo2 : ∀ w ∈ Cond.classLink "MergeGraphs" 166 (xName 2) :: Cond.initialized (xName 2) :: vx_atS "MergeGraphs" 170 (xName 2) ["java/lang/RuntimeException", "java/lang/Exception"], vx_ot w = true := by decide +kernel
end XS

