/-! THE LAW'S OWN METHODS: they catch what the class throws -/
def zNc (U : State) : Prop := va_Nc "java/lang/IllegalArgumentException" "java/lang/IndexOutOfBoundsException" U
def zPreW (D : va_G) (cT : Nat → ClassId) (sz : Nat) (h : pH) (U : State) : Prop := zPreT D cT sz h U ∧ zNc U
def zMetW (l : Launch) (y : MethodName) (M : zM) (hh : List (Nat × Nat × Nat × Nat)) (mc ms : Nat) (av : List Value) (h : pH) (r : pR) : Prop := ∀ (D : va_G) (cT : Nat → ClassId) (sz : Nat),
  Met l y (.codeWith y M.2.1 M.2.2.1 M.2.2.2.1 hh :: zTg) (zRoom M.2.2.2.2 mc ms) (va_Pc av (zPreW D cT sz h)) (zPost D cT sz h r) mc ms (va_A (zw cT h) sz)
def zLOK (X : zX) (hh : List (Nat × Nat × Nat × Nat)) : Prop := match X with
  | (_, l, _, s, _, _, _, _, c, _, cT, h0, _, _, _) => zThr (va_A (zw cT h0) s.heap.size) s s.heap ∧ l.stackTraces = false ∧ zNc s ∧ c.exceptionTable.toList = tableOf hh
section LS
variable {X : zX} {M : zM} {k n : Nat} {h : pH} {pc : Nat} {lv lv2 : List (Nat × Value)} {st : List Value}
theorem zLOK_l {hh : List (Nat × Nat × Nat × Nat)} (hT : zLOK X hh) : (zl X).stackTraces = false := by
  obtain ⟨p, l, e, s, m, args, below, meth, c, D, cT, h0, Q, mc, ms⟩ := X
  exact hT.2.1
/-- which row of the table takes the exception kd at pc -/
def zTake (M : zM) (hh : List (Nat × Nat × Nat × Nat)) (pc kd hpc : Nat) : Prop :=
  ∃ (pre : List (Nat × Nat × Nat × Nat)) (x : Nat × Nat × Nat × Nat) (suf : List (Nat × Nat × Nat × Nat)), hh = pre ++ x :: suf ∧ x.2.2.1 = hpc ∧ (∀ z ∈ pre, z.2.2.2 ≠ 0 ∧ kd = 2 ∧ Cond.classLink M.1 z.2.2.2 (xName 1) ∈ zTg) ∧ covers ⟨x.1, x.2.1, x.2.2.1, x.2.2.2⟩ pc = true ∧ x.2.2.2 ≠ 0 ∧ Cond.classLink M.1 x.2.2.2 (xName kd) ∈ zTg ∧ Cond.castable (xName kd) (xName kd) ∈ zN
/-- a call that may throw, in a method that catches -/
theorem l_invV {i ci b : Nat} {y : MethodName} {C : String} {T : u_T} {N : Nat} {Mc : zM} {av rest : List Value} {rc : pT} {mc1 ms1 : Nat} {hh : List (Nat × Nat × Nat × Nat)} (hT : zLOK X hh) (hc : zcl[ci]? = some (C, T, N)) (hyC : y.cls = C) (hw : Cond.methodLink M.1 i y ∈ zTg ∧ Cond.instanceMethod y ∈ zTg ∧ Cond.selects C y y ∈ zTg ∧ Cond.initialized C ∈ zTg) (hcode : Cond.code y Mc.2.1 Mc.2.2.1 Mc.2.2.2.1 ∈ zTg) (hy : y.cls ≠ "java/lang/invoke/MethodHandle" ∧ y.cls ≠ "java/lang/invoke/VarHandle" ∧ (parseMethodDescriptor y.desc).map (fun d => d.parameters.length) = some av.length) (hdp : Mc.2.2.2.2 < M.2.2.2.2) (hml : Mc.2.2.1 ≤ 31) (hkn : zkn X (k + mc1) (n + ms1)) (hst : st = av.reverse ++ .ref b :: rest) (hrest : (rest.map fun v => v.category).sum ≤ 8) (hd : decode M.2.1 pc = .ok (.invokevirtual i, 3)) (hb : oC h b ci = true) (hM : zMetT (zl X) y Mc mc1 ms1 (.ref b :: av) h rc)
    (kx : ∀ kd : Nat, rc.1 = .inl kd → ∃ hpc : Nat, zTake M hh pc kd hpc ∧ ∀ q : Nat, Z X M (k + mc1) (n + ms1) rc.2 hpc lv [.ref q]) (kk : ∀ v : Option Value, rc.1 = .inr v → Z X M (k + mc1) (n + ms1) rc.2 (pc + 3) lv (v.toList ++ rest)) : Z X M k n h pc lv st := by
  intro hX H locs ls hR hl
  have kk := fun v e => kk v e hX
  have kx := fun kd e => kx kd e
  obtain ⟨hbL, fs, hf⟩ := oC_some hb
  obtain ⟨p, l, e, s, m, args, below, meth, c, D, cT, h0, Q, mc, ms⟩ := X
  have hS := hR.2.2
  obtain ⟨q, hq⟩ := zw_at (cT := cT) hbL
  rw [hf] at hq
  have hG : GoodIn zTg (wsV M.1 i C y (.code y Mc.2.1 Mc.2.2.1 Mc.2.2.2.1 :: zTg)) := by
    intro w h9
    rcases List.mem_append.mp h9 with h9 | h9
    · rcases List.mem_cons.mp h9 with rfl | h9
      · exact zTg_good hw.1
      · rcases List.mem_cons.mp h9 with rfl | h9
        · exact zTg_good hw.2.1
        · rcases List.mem_cons.mp h9 with rfl | h9
          · exact zTg_good hw.2.2.1
          · rcases List.mem_cons.mp h9 with rfl | h9
            · exact zTg_good hw.2.2.2
            · cases h9
    · rcases List.mem_cons.mp h9 with rfl | h9
      · exact zTg_good hcode
      · exact zTg_good h9
  have hF : ∀ q, va_A (zw cT h) H.size q → va_A (zw cT h0) s.heap.size q := by
    intro q hq
    rcases hq with ⟨j, x, hx⟩ | hq
    · exact hR.2.1.2 j _ hx
    · exact Or.inr (Nat.le_trans hR.2.2.1 hq)
  have run := vx_runV (g := F0 m pc ls st) (locs := locs) (cells := k) (slots := n) (e := e) (below := below) (meth := meth) ⟨hX.1, hX.2.1, hX.2.2.1, hX.2.2.2.1, hX.2.2.2.2.1⟩ (hM D cT H.size) (cwV (R := zRoom M.2.2.2.2 mc ms) av.length hX.2.2.2.2.1 hG rfl rfl rfl ⟨hyC, hy⟩ (zRoom_ok2 hdp hml)) ⟨zPreT_blind, va_recv hX.2.2.2.2.2.1 hR.1 hc hq, fun U hU hW => ⟨rfl, ⟨by rw [hU], by rw [hU]; exact hR.1, va_K.moved hW.alike hX.2.2.2.2.2.1, zNw.warm hW hX.2.2.2.2.2.2.1, hR.2.1.weaken (fun _ _ _ _ => trivial)⟩, by rw [hU]; exact (zThr.warm hW (hT.1.kept hR.2.2.2.1)).narrow hF⟩⟩ rfl rfl hl.1 hst (lv_room hrest) hd ⟨hkn.1, hkn.2⟩
  intro T0 hT0 XX
  rcases run T0 hT0 XX with ⟨v, st0, t, T', L, e0, X', hL, e1, e2, ⟨⟨v2, hv2, ho, hP1, hD1⟩, hz, hkp⟩, go⟩ | ⟨q9, st0, t, T', L, E, ce, e0, X', hL, e1, e2, ⟨⟨kd, hkd, rfl, hP1, hD1⟩, hz, hkp⟩, hce, hcv, hcl, go⟩
  · cases ho
    rw [e0] at hz hkp
    obtain ⟨t2, a1, b1⟩ := kk _ hv2 T'.heap (locs ++ L) ls ⟨by rw [e1]; exact hP1, hD1.weaken (fun _ _ _ hq => hF _ hq), Nat.le_trans hS.1 (by rw [e1]; exact hz), fun q h1 h2 => by rw [e1, hkp q (Nat.lt_of_lt_of_le h1 hS.1) (fun z => h2 (hF q z))]; exact hS.2.1 q h1 h2, fun q hq => by
        rcases List.mem_append.mp hq with hq | hq
        · exact hS.2.2 q hq
        · exact hF _ (hL q hq)⟩ hl T' rfl X'
    exact ⟨t2, go t2 a1, b1⟩
  · rw [e0] at hz hkp
    obtain ⟨hpc, ⟨pre, x, suf, h1, rfl, h2, h3, h4, h5, h6⟩, kz⟩ := kx kd hkd
    have kz := kz q9 hX T'.heap (locs ++ L) ls ⟨by rw [e1]; exact hP1, hD1.weaken (fun _ _ _ hq => hF _ hq), Nat.le_trans hS.1 (by rw [e1]; exact hz), fun q h1 h2 => by rw [e1, hkp q (Nat.lt_of_lt_of_le h1 hS.1) (fun z => h2 (hF q z))]; exact hS.2.1 q h1 h2, fun q hq => by
        rcases List.mem_append.mp hq with hq | hq
        · exact hS.2.2 q hq
        · exact hF _ (hL q hq)⟩ hl
    have hcast : (Cond.castable (xName kd) (xName kd)).before args s = true := va_Nw.use rfl (hX.2.2.2.2.2.2.1 _ h6)
    have out : vx_W p l e (zRoom M.2.2.2.2 mc ms) s m args below meth c T'.heap (locs ++ L) (k + mc1) (n + ms1) Q (F0 m pc ls rest) q9 := by
      refine vx_catch (own := M.1) (name := xName kd) (E := xName kd) hX.2.2.2.1 (tableOf pre) ⟨x.1, x.2.1, x.2.2.1, x.2.2.2⟩ (tableOf suf) ?_ (fun z hz9 => Or.inr ?_) h3 h4 (hX.2.2.2.2.1 _ h5) hcast (by rw [e1]; exact hce) hcv hcl kz
      · rw [hT.2.2.2, h1]
        simp [tableOf]
      · obtain ⟨w9, hw9, rfl⟩ := List.mem_map.mp hz9
        obtain ⟨g1, rfl, g3⟩ := h2 w9 hw9
        exact ⟨g1, xName 1, hX.2.2.2.2.1 _ g3, hT.2.2.1⟩
    obtain ⟨t2, a1, b1⟩ := out T' rfl X'
    exact ⟨t2, go.trans a1, b1⟩
theorem zMetW_of {l : Launch} {y : MethodName} {M : zM} {hh : List (Nat × Nat × Nat × Nat)} {mc ms : Nat} {av : List Value} {h : pH} {r : pR} (hl0 : l.stackTraces = false) (hy : plainName y.cls = true) (hyM : y.cls = M.1) (hlen : (lg_sl av).length ≤ M.2.2.1)
    (body : ∀ X : zX, zLOK X hh → zQ X r → zkn X mc ms → zl X = l → Z X M 0 0 h 0 (lv_args 0 av) []) : zMetW l y M hh mc ms av h r := by
  intro D cT sz
  refine va_MetW (cc := M.2.1) (maxL := M.2.2.1) (ret := M.2.2.2.1) (hh := hh) hy rfl ?_
  intro p e s m args below meth c s₁ B hml hv
  obtain ⟨rfl, ⟨⟨hsz, hP, hK, hN, hD0⟩, hTh⟩, hNc⟩ := hv
  have hts := atoms_spec (ws := .codeWith y M.2.1 M.2.2.1 M.2.2.2.1 hh :: zTg) B.pre
  have hown : s.vm.findClass M.1 = some m.cls := by rw [← hyM]; exact findClass_of_methodNamed B.named
  have htab : c.exceptionTable.toList = tableOf hh := vx_table (x := y) B (hts _ List.mem_cons_self)
  subst hsz
  have hl := lv_entry av (n := M.2.2.1) hlen
  rw [lg_entry_eq]
  generalize (lg_sl av ++ List.replicate (M.2.2.1 - (lg_sl av).length) Slot.unset).toArray = ls at hl ⊢
  exact body (p, l, e, s, m, av.toArray, below, meth, c, D, cT, h, _, mc, ms) ⟨hTh, hl0, hNc, htab⟩ rfl ⟨Nat.le_refl _, Nat.le_refl _⟩ rfl ⟨B.exec, B.bytes, hml, hown, fun w h9 => hts w (List.mem_cons_of_mem _ h9), hK, hN, B.returns, B.notSynchronized⟩ s.heap [] ls ⟨hP, hD0.self, va_S.rf⟩ hl
def tC (g : Bool) (o : Option pT) (f : Int32 → pH → Option pR) (c : Nat → pH → Option pR) : Option pR := if g = true then (match o with
  | some (.inr (some (.int v)), h1) => f v h1
  | some (.inl kd, h1) => c kd h1
  | _ => none) else none
theorem tC_some {g : Bool} {o : Option pT} {f : Int32 → pH → Option pR} {c : Nat → pH → Option pR} {r : pR} (e : tC g o f c = some r) : g = true ∧ ∃ rc : pT, o = some rc ∧ (∀ kd : Nat, rc.1 = .inl kd → c kd rc.2 = some r) ∧ ∀ v : Option Value, rc.1 = .inr v → ∃ x : Int32, v = some (.int x) ∧ f x rc.2 = some r := by
  unfold tC at e
  split at e
  · rename_i hg
    refine ⟨hg, ?_⟩
    split at e
    · exact ⟨_, rfl, fun kd hk => (nomatch hk), fun v hv => by cases hv; exact ⟨_, rfl, e⟩⟩
    · exact ⟨_, rfl, fun kd hk => by cases hk; exact e, fun v hv => (nomatch hv)⟩
    · cases e
  · cases e
theorem x1_castable : Cond.castable (xName 1) (xName 1) ∈ zN := by decide +kernel
theorem x2_castable : Cond.castable (xName 2) (xName 2) ∈ zN := by decide +kernel
end LS

