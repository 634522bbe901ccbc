/-! CONSTRUCTORS: what is made lies at addresses that nobody knows: a text is a proposition here, K what must hold of the end -/
def zAO (U : State) : Prop := va_AO "MergeGraphs$Graph" U ∧ va_AOA .long U
theorem va_AOA.moved {ty : FieldType} {u U : State} (hvm : u.vm.Alike U.vm) (h : va_AOA ty u) : va_AOA ty U := arrayOver_alikeB hvm h
theorem zAO.moved {u U : State} (hvm : u.vm.Alike U.vm) (h : zAO u) : zAO U := ⟨va_AO.moved hvm h.1, va_AOA.moved hvm h.2⟩
def zPreC (D : va_G) (cT : Nat → ClassId) (sz : Nat) (h : pH) (U : State) : Prop := zPre D cT sz h U ∧ zAO U
def zPostC (D : va_G) (cT : Nat → ClassId) (sz : Nat) (h : pH) (K : pR → Prop) : Array Value → State → Outcome → State → Prop := fun a st oc t => ∃ r : pR, K r ∧ zPost D cT sz h r a st oc t
def zMetC (l : Launch) (y : MethodName) (M : zM) (mc ms : Nat) (av : List Value) (h : pH) (K : pR → Prop) : Prop := ∀ (D : va_G) (cT : Nat → ClassId) (sz : Nat),
  Met l y (.code y M.2.1 M.2.2.1 M.2.2.2.1 :: zTg) (zRoom M.2.2.2.2 mc ms) (va_Pc av (zPreC D cT sz h)) (zPostC D cT sz h K) mc ms (va_A (zw cT h) sz)
def zCOK (X : zX) : Prop := match X with
  | (_, _, _, s, _, _, _, meth, _, _, _, _, _, _, _) => zAO s ∧ meth.name = "<init>"
def zQc (X : zX) (K : pR → Prop) : Prop := match X with
  | (_, _, _, s, _, args, below, _, _, D, cT, h0, Q, mc, ms) => Q = MQ below (zPostC D cT s.heap.size h0 K) args s mc ms (va_A (zw cT h0) s.heap.size)
/-- a new cell -/
def hN (h : pH) (q : Nat) (x : pE) : pH := (h.1 ++ [q], va_up h.2 q x)
theorem zw_push {cT : Nat → ClassId} {h : pH} {q : Nat} {x : pE} (hq : q ∉ h.1) : zw cT h ++ [(q, zcv cT x)] = zw cT (hN h q x) := by
  have e := va_pl_push (L := h.1) (f := fun a => zcv cT (h.2 a)) (a := q) (e := zcv cT x) hq
  refine e.trans (va_pl_congr fun b => ?_)
  by_cases hb : b = q
  · subst hb; simp [va_up, hN]
  · simp [va_up, hb, hN]
theorem zw_new {cT : Nat → ClassId} {h : pH} {q : Nat} {e : va_E} {A : Nat → Prop} (hD : va_D A (zw cT h ++ [(q, e)])) : q ∉ h.1 := by
  intro hq
  obtain ⟨i, hi⟩ := zw_at (cT := cT) hq
  have hl := (List.getElem?_eq_some_iff.mp hi).1
  have h1 : (zw cT h ++ [(q, e)])[i]? = some (q, zcv cT (h.2 q)) := by rw [List.getElem?_append_left hl]; exact hi
  have h2 : (zw cT h ++ [(q, e)])[(zw cT h).length]? = some (q, e) := by simp
  have := hD.1 i _ _ _ h1 h2 rfl
  omega
section CS
variable {X : zX} {M : zM} {k n : Nat} {h : pH} {pc : Nat} {lv lv2 : List (Nat × Value)} {st : List Value}
theorem zoi : Cond.instanceMethod objectInit ∈ zTg := zmem 65 (by decide +kernel) (by decide +kernel)
theorem zoc : Cond.code objectInit ⟨#[0xb1]⟩ 1 none ∈ zTg := zmem 66 rfl rfl
theorem y_objInit {i a : Nat} (hw : Cond.methodLink M.1 i objectInit ∈ zTg) (hdep : 1 ≤ M.2.2.2.2) (hst : (st.map fun v => v.category).sum ≤ 8) (hd : decode M.2.1 pc = .ok (.invokespecial i, 3)) (kk : Z X M k n h (pc + 3) lv st) : Z X M k n h pc lv (.ref a :: st) := by
  intro hX H locs ls hR hl
  have kk := kk hX H locs ls hR hl
  obtain ⟨p, l, e, s, m, args, below, meth, c, D, cT, h0, Q, mc, ms⟩ := X
  refine W.objInit hX.1 hX.2.1 hX.2.2.2.1 (hX.2.2.2.2.1 _ hw) (hX.2.2.2.2.1 _ zoi) (hX.2.2.2.2.1 _ zoc) rfl (hl.1.trans hX.2.2.1.symm) rfl hd hdep ?_ kk
  show 2 * 0 + _ + 12 ≤ 50 * M.2.2.2.2
  omega
theorem y_newI {x : Int32} {N : Nat} (hx : x.toNatClampNeg = N) (hn : ¬ x < 0) (hN9 : N ≤ 100000) (harr : Cond.arrayClass .int ∈ zTg) (hkn : zkn X (k + 1) (n + N)) (hd : decode M.2.1 pc = .ok (.newarray .int, 2))
    (kk : ∀ q : Nat, q ∉ h.1 → Z X M (k + 1) (n + N) (hN h q (.inl (0, N, .inl (fun _ => 0)))) (pc + 2) lv (.ref q :: st)) : Z X M k n h pc lv (.int x :: st) := by
  intro hX H locs ls hR hl
  have kk := fun q hq => kk q hq hX
  obtain ⟨p, l, e, s, m, args, below, meth, c, D, cT, h0, Q, mc, ms⟩ := X
  refine va_newa (atype := .int) (ty := .int) (a0 := (N, .inl (fun _ => 0))) hX.1 hX.2.1 (hX.2.2.2.2.1 _ harr) rfl hX.2.2.2.2.2.1 hR.1 hR.2.1 hR.2.2 (fun q h9 => Or.inr h9) (fun cA => ?_) hn hx ?_ hkn.1 hkn.2 hd (fun q cA H1 hK1 hP hD hS => ?_)
  · rfl
  · show N * 4 ≤ 536870912
    omega
  · have h1 : s.vm.findClass ("[" ++ FieldType.int.toString) = some (cT 0) := (hX.2.2.2.2.2.1.2 0 _ rfl).2
    have h2 : s.vm.findClass ("[" ++ FieldType.int.toString) = some cA := (hK1.2 4 _ rfl).2
    cases h1.symm.trans h2
    have hq := zw_new hD
    have e := zw_push (cT := cT) (x := .inl (0, N, .inl (fun _ => 0))) hq
    exact kk q hq H1 locs ls ⟨e ▸ hP, e ▸ hD, hS⟩ hl
theorem y_newJ {x : Int32} {N : Nat} (hx : x.toNatClampNeg = N) (hn : ¬ x < 0) (hN9 : N ≤ 100000) (harr : Cond.arrayClass .long ∈ zTg) (hkn : zkn X (k + 1) (n + N)) (hd : decode M.2.1 pc = .ok (.newarray .long, 2))
    (kk : ∀ q : Nat, q ∉ h.1 → Z X M (k + 1) (n + N) (hN h q (.inl (1, N, .inr (.inl (fun _ => 0))))) (pc + 2) lv (.ref q :: st)) : Z X M k n h pc lv (.int x :: st) := by
  intro hX H locs ls hR hl
  have kk := fun q hq => kk q hq hX
  obtain ⟨p, l, e, s, m, args, below, meth, c, D, cT, h0, Q, mc, ms⟩ := X
  refine va_newa (atype := .long) (ty := .long) (a0 := (N, .inr (.inl (fun _ => 0)))) hX.1 hX.2.1 (hX.2.2.2.2.1 _ harr) rfl hX.2.2.2.2.2.1 hR.1 hR.2.1 hR.2.2 (fun q h9 => Or.inr h9) (fun cA => ?_) hn hx ?_ hkn.1 hkn.2 hd (fun q cA H1 hK1 hP hD hS => ?_)
  · rfl
  · show N * 8 ≤ 536870912
    omega
  · have h1 : s.vm.findClass ("[" ++ FieldType.long.toString) = some (cT 1) := (hX.2.2.2.2.2.1.2 1 _ rfl).2
    have h2 : s.vm.findClass ("[" ++ FieldType.long.toString) = some cA := (hK1.2 4 _ rfl).2
    cases h1.symm.trans h2
    have hq := zw_new hD
    have e := zw_push (cT := cT) (x := .inl (1, N, .inr (.inl (fun _ => 0)))) hq
    exact kk q hq H1 locs ls ⟨e ▸ hP, e ▸ hD, hS⟩ hl
theorem y_anew {x : Int32} {N i : Nat} (hC : zCOK X) (hx : x.toNatClampNeg = N) (hn : ¬ x < 0) (hN9 : N ≤ 100000) (hw : Cond.classLink M.1 i "MergeGraphs$Graph" ∈ zTg) (hkn : zkn X (k + 1) (n + N)) (hd : decode M.2.1 pc = .ok (.anewarray i, 3))
    (kk : ∀ q : Nat, q ∉ h.1 → Z X M (k + 1) (n + N) (hN h q (.inl (2, N, .inr (.inr (.inr (.inr (fun _ => none))))))) (pc + 3) lv (.ref q :: st)) : Z X M k n h pc lv (.int x :: st) := by
  intro hX H locs ls hR hl
  have kk := fun q hq => kk q hq hX
  obtain ⟨p, l, e, s, m, args, below, meth, c, D, cT, h0, Q, mc, ms⟩ := X
  refine va_newq (C := "MergeGraphs$Graph") hX.1 hX.2.1 hX.2.2.2.1 (hX.2.2.2.2.1 _ hw) hC.1.1 hX.2.2.2.2.2.1 hR.1 hR.2.1 hR.2.2 (fun q h9 => Or.inr h9) hn hx (by omega) hkn.1 hkn.2 hd (fun q cA H1 hK1 hP hD hS => ?_)
  obtain ⟨_, _, -, -, -, h1⟩ := (hX.2.2.2.2.2.1.2 2 _ rfl).2
  obtain ⟨_, _, -, -, -, h2⟩ := (hK1.2 4 _ rfl).2
  cases h1.symm.trans h2
  have hq := zw_new hD
  have e := zw_push (cT := cT) (x := .inl (2, N, .inr (.inr (.inr (.inr (fun _ => none)))))) hq
  exact kk q hq H1 locs ls ⟨e ▸ hP, e ▸ hD, hS⟩ hl
theorem y_multi {x y : Int32} {N K i : Nat} (hC : zCOK X) (hx : x.toNatClampNeg = N) (hy : y.toNatClampNeg = K) (hxn : ¬ x < 0) (hyn : ¬ y < 0) (hN9 : N ≤ 100000) (hK9 : K ≤ 100000) (hw : Cond.classLink M.1 i "[[J" ∈ zTg) (harr : Cond.arrayClass .long ∈ zTg) (hkn : zkn X (k + 1 + N) (n + N + N * K)) (hd : decode M.2.1 pc = .ok (.multianewarray i 2, 4))
    (kk : ∀ (q : Nat) (r : Nat → Nat), q ∉ h.1 → (∀ i j : Nat, i < N → j < N → r i = r j → i = j) → (∀ i : Nat, i < N → r i ∉ h.1 ∧ r i ≠ q) → Z X M (k + 1 + N) (n + N + N * K) (h.1 ++ (List.range N).map r ++ [q], va_up (vr_up h.2 ((List.range N).map r) (.inl (1, K, .inr (.inl (fun _ => 0))))) q (.inl (3, N, .inr (.inr (.inr (.inr (fun i => if i < N then some (r i) else none))))))) (pc + 4) lv (.ref q :: st)) : Z X M k n h pc lv (.int y :: .int x :: st) := by
  intro hX H locs ls hR hl
  have kk := fun q r h1 h2 h3 => kk q r h1 h2 h3 hX
  obtain ⟨p, l, e, s, m, args, below, meth, c, D, cT, h0, Q, mc, ms⟩ := X
  have hcy : s.vm.findClass ("[" ++ FieldType.long.toString) = some (cT 1) := (hX.2.2.2.2.2.1.2 1 _ rfl).2
  refine va_mna (X := []) (L := h.1) (f := fun a => zcv cT (h.2 a)) (ty := .long) (cy := cT 1) (z := (K, .inr (.inl (fun _ => 0)))) hX.1 hX.2.1 hX.2.2.2.1 (hX.2.2.2.2.1 _ hw) hC.1.2 (hX.2.2.2.2.1 _ harr) hcy hX.2.2.2.2.2.1 hR.1 hR.2.1 hR.2.2 (fun q h9 => Or.inr h9) hxn hyn hx hy (by omega) (by show K * 8 ≤ 536870912; omega) (by omega) rfl rfl (by have := hkn.1; show _ ≤ mc; omega) (by have := hkn.2; show _ ≤ ms; omega) (fun c => ?_) hd (fun q r cA H1 h1 h2 hK1 hP hD hS => ?_)
  · show ({ cls := c, slots := Array.replicate K (Value.long 0), vm := .none } : Cell) = _
    rw [arrV_new]
    rfl
  · have h3 : s.vm.findClass ("[" ++ (FieldType.array .long).toString) = some (cT 3) := (hX.2.2.2.2.2.1.2 3 _ rfl).2
    have h4 : s.vm.findClass ("[" ++ (FieldType.array .long).toString) = some cA := (hK1.2 4 _ rfl).2
    cases h3.symm.trans h4
    have hP2 := va_P.swap hP
    have hD2 := va_D.swap hD
    rw [List.nil_append] at hP2 hD2
    have e1 : va_pl (h.1 ++ (List.range N).map r) (vr_up (fun a => zcv cT (h.2 a)) ((List.range N).map r) (.inl (cT 1, K, .inr (.inl (fun _ => 0))))) = zw cT (h.1 ++ (List.range N).map r, vr_up h.2 ((List.range N).map r) (.inl (1, K, .inr (.inl (fun _ => 0))))) := by
      refine va_pl_congr fun b => ?_
      by_cases hb : b ∈ (List.range N).map r
      · rw [vr_up_in hb]; show _ = zcv cT (vr_up _ _ _ b); rw [vr_up_in hb]; rfl
      · rw [vr_up_ne hb]; show _ = zcv cT (vr_up _ _ _ b); rw [vr_up_ne hb]
    rw [e1] at hP2 hD2
    have hq : q ∉ h.1 ++ (List.range N).map r := zw_new hD2
    have e := zw_push (cT := cT) (h := (h.1 ++ (List.range N).map r, vr_up h.2 ((List.range N).map r) (.inl (1, K, .inr (.inl (fun _ => 0)))))) (q := q) (x := .inl (3, N, .inr (.inr (.inr (.inr (fun i => if i < N then some (r i) else none)))))) hq
    exact kk q r (fun h9 => hq (List.mem_append_left _ h9)) h1 (fun i hi => ⟨h2 i hi, fun e9 => hq (List.mem_append_right _ (List.mem_map.mpr ⟨i, List.mem_range.mpr hi, e9⟩))⟩) H1 locs ls ⟨e ▸ hP2, e ▸ hD2, hS⟩ hl
theorem y_new {ci i N : Nat} {C : String} {T : u_T} {fs : List Value} (hc : zcl[ci]? = some (C, T, N)) (ty0 : Nat → FieldType) (hty : ∀ k, k < N → parseFieldDescriptor (T k).2.2.1 = some (ty0 k)) (hfs : ∀ j, j < N → defaultValue (ty0 j) = vp_V fs j) (hw : Cond.classLink M.1 i C ∈ zTg ∧ Cond.instantiable C N ∈ zTg ∧ Cond.initialized C ∈ zTg) (hkn : zkn X (k + 1) (n + N)) (hd : decode M.2.1 pc = .ok (.new i, 3))
    (kk : ∀ q : Nat, q ∉ h.1 → Z X M (k + 1) (n + N) (hN h q (.inr (ci, fs))) (pc + 3) lv (.ref q :: st)) : Z X M k n h pc lv st := by
  intro hX H locs ls hR hl
  have kk := fun q hq => kk q hq hX
  obtain ⟨p, l, e, s, m, args, below, meth, c, D, cT, h0, Q, mc, ms⟩ := X
  refine va_new (fs := fs) hX.1 hX.2.1 hX.2.2.2.2.1 (zcl_in hc) ty0 hty hX.2.2.2.1 (hX.2.2.2.2.1 _ hw.1) (hX.2.2.2.2.1 _ hw.2.1) (hX.2.2.2.2.1 _ hw.2.2) hX.2.2.2.2.2.1 hR.1 hR.2.1 hR.2.2 (fun q h9 => Or.inr h9) hc hfs hkn.1 hkn.2 hd (fun q H1 hP hD hS => ?_)
  have hq := zw_new hD
  have e := zw_push (cT := cT) (x := .inr (ci, fs)) hq
  exact kk q hq H1 locs ls ⟨e ▸ hP, e ▸ hD, hS⟩ hl
/-- a final field in its class's own constructor -/
theorem y_putF {ci j i a : Nat} {C : String} {T : u_T} {N : Nat} {v : Value} {ty : FieldType} {h1 : pH} (hC : zCOK X) (hc : zcl[ci]? = some (C, T, N)) (hj : j < N) (hw : Cond.fieldLink M.1 i (T j).1 (T j).2.1 (T j).2.2.1 ∈ zTg) (hfin : (T j).2.2.2 = true) (hown : (T j).1 = M.1) (ht : parseFieldDescriptor (T j).2.2.1 = some ty) (hnr : narrow ty v = v) (hft : fits ty v = true) (hd : decode M.2.1 pc = .ok (.putfield i, 3)) (e1 : oP h a ci j v = some h1) (kk : Z X M k n h1 (pc + 3) lv st) : Z X M k n h pc lv (v :: .ref a :: st) := by
  intro hX H locs ls hR hl
  have kk := kk hX
  obtain ⟨ha, fs, hf, hv, rfl⟩ := oP_some e1
  obtain ⟨ty0, hty, hnm⟩ := zcl_ty hc
  obtain ⟨p, l, e, s, m, args, below, meth, c, D, cT, h0, Q, mc, ms⟩ := X
  obtain ⟨q, hq⟩ := zw_at (cT := cT) ha
  have hq2 := hq
  rw [hf] at hq
  refine va_putF hX.1 hX.2.1 hX.2.2.2.2.1 (zcl_in hc) ty0 hty hnm hX.2.2.2.1 hX.2.2.2.2.2.1 hR.1 hR.2.1 hR.2.2 q hq hc j hj (hX.2.2.2.2.1 _ hw) (fun _ h9 => h9) hfin hC.2 hown ht hnr hft hv hd (fun H1 locs1 hP hD hS => ?_)
  have e := zw_set (x := .inr (ci, fs.set j v)) hR.2.1 ha hq2
  exact kk H1 locs1 ls ⟨e ▸ hP, e ▸ hD, hS⟩ hl
/-- a field that is not final, of int or boolean -/
theorem y_putV {ci j i a : Nat} {C : String} {T : u_T} {N : Nat} {v : Value} {ty : FieldType} {h1 : pH} (hc : zcl[ci]? = some (C, T, N)) (hj : j < N) (hw : Cond.fieldLink M.1 i (T j).1 (T j).2.1 (T j).2.2.1 ∈ zTg) (hfin : (T j).2.2.2 = false) (ht : parseFieldDescriptor (T j).2.2.1 = some ty) (hnr : narrow ty v = v) (hft : fits ty v = true) (hd : decode M.2.1 pc = .ok (.putfield i, 3)) (e1 : oP h a ci j v = some h1) (kk : Z X M k n h1 (pc + 3) lv st) : Z X M k n h pc lv (v :: .ref a :: st) := by
  intro hX H locs ls hR hl
  have kk := kk hX
  obtain ⟨ha, fs, hf, hv, rfl⟩ := oP_some e1
  obtain ⟨ty0, hty, hnm⟩ := zcl_ty hc
  obtain ⟨p, l, e, s, m, args, below, meth, c, D, cT, h0, Q, mc, ms⟩ := X
  obtain ⟨q, hq⟩ := zw_at (cT := cT) ha
  have hq2 := hq
  rw [hf] at hq
  refine va_put hX.1 hX.2.1 hX.2.2.2.2.1 (zcl_in hc) ty0 hty hnm hX.2.2.2.1 hX.2.2.2.2.2.1 hR.1 hR.2.1 hR.2.2 q hq hc j hj (hX.2.2.2.2.1 _ hw) (fun _ h9 => h9) hfin ht hnr hft hv hd (fun H1 locs1 hP hD hS => ?_)
  have e := zw_set (x := .inr (ci, fs.set j v)) hR.2.1 ha hq2
  exact kk H1 locs1 ls ⟨e ▸ hP, e ▸ hD, hS⟩ hl
theorem y_return {K : pR → Prop} (hQ : zQc X K) (hr : M.2.2.2.1 = none) (hkn : zkn X k n) (hd : decode M.2.1 pc = .ok (.return_, 1)) (E : K (none, h)) : Z X M k n h pc lv [] := by
  intro hX H locs ls hR hl
  obtain ⟨p, l, e, s, m, args, below, meth, c, D, cT, h0, Q, mc, ms⟩ := X
  have hQ : Q = _ := hQ
  subst hQ
  refine W.widen hkn.1 hkn.2 ?_
  exact W.vret hX.1 hX.2.1 (hX.2.2.2.2.2.2.2.1.trans hr) (fun t ht hW => ⟨(none, h), E, ⟨rfl, by rw [ht]; exact hR.1, hR.2.1⟩, hR.2.2.F ht⟩) hR.2.2.2.2 hd (hlocks := hX.2.2.2.2.2.2.2.2)
theorem zPreC_blind {D : va_G} {cT : Nat → ClassId} {sz : Nat} {av : List Value} : FrameBlind (va_Pc av (zPreC D cT sz h)) := by
  intro a U g mk q
  obtain ⟨q1, q2, q3⟩ := q
  have q4 := zPre_blind (h := h) (D := D) (cT := cT) (sz := sz) (av := av) a U g mk ⟨q1, q2⟩
  exact ⟨q1, q4.2, zAO.moved (u := U) (U := U.calling g mk a) (Vm.Alike.refl U.vm) q3⟩
theorem y_back {K : pR → Prop} {rest av : List Value} {mc1 ms1 : Nat} (hk0 : zOK X M → ∀ (H : Heap) (locs : List Loc) (ls : Array Slot), zR X h H locs → lv_has ls M.2.2.1 lv → match X with
    | (p, l, e, s, m, args, below, meth, c, D, cT, _, _, mc, ms) => va_Run p l e (zRoom M.2.2.2.2 mc ms) s m args below meth c H locs k n mc1 ms1 (F0 m pc ls st) rest (zPostC D cT H.size h K av.toArray) (va_A (zw cT h) H.size))
    (kk : ∀ rc : pR, K rc → Z X M (k + mc1) (n + ms1) rc.2 (pc + 3) lv (rc.1.toList ++ rest)) : Z X M k n h pc lv st := by
  intro hX H locs ls hR hl
  have run := hk0 hX H locs ls hR hl
  have kk := fun rc h9 => kk rc h9 hX
  obtain ⟨p, l, e, s, m, args, below, meth, c, D, cT, h0, Q, mc, ms⟩ := X
  have hS := hR.2.2
  have hF : ∀ q, va_A (zw cT h) H.size q → va_A (zw cT h0) s.heap.size q := by
    intro q hq
    rcases hq with ⟨j, x, hx⟩ | hq
    · exact hR.2.1.2 j _ hx
    · exact Or.inr (Nat.le_trans hS.1 hq)
  intro T hT XX
  obtain ⟨v, st0, t, T', L, e0, X', hL, e1, e2, ⟨rc, hrc, ⟨ho, hP1, hD1⟩, hz, hkp⟩, go⟩ := run T hT XX
  cases ho
  rw [e0] at hz hkp
  obtain ⟨t2, a1, b1⟩ := kk rc hrc T'.heap (locs ++ L) ls ⟨by rw [e1]; exact hP1, hD1.weaken (fun _ _ _ hq => hF _ hq), Nat.le_trans hS.1 (by rw [e1]; exact hz), fun q h1 h2 => by rw [e1, hkp q (Nat.lt_of_lt_of_le h1 hS.1) (fun z => h2 (hF q z))]; exact hS.2.1 q h1 h2, fun q hq => by
      rcases List.mem_append.mp hq with hq | hq
      · exact hS.2.2 q hq
      · exact hF _ (hL q hq)⟩ hl T' rfl X'
  exact ⟨t2, go t2 a1, b1⟩
/-- a constructor of a nest mate -/
theorem y_invIN {i b : Nat} {y : MethodName} {host : String} {Mc : zM} {rest : List Value} {K : pR → Prop} {mc1 ms1 : Nat} (hC : zCOK X) (hy1 : y.name = "<init>") (hret : Mc.2.2.2.1 = none) (hw : Cond.methodLinkNest M.1 i y host ∈ zN ∧ Cond.instanceMethod y ∈ zTg ∧ Cond.initialized y.cls ∈ zTg) (hcode : Cond.code y Mc.2.1 Mc.2.2.1 Mc.2.2.2.1 ∈ zTg) (hy : y.cls ≠ "java/lang/invoke/MethodHandle" ∧ y.cls ≠ "java/lang/invoke/VarHandle" ∧ (parseMethodDescriptor y.desc).map (fun d => d.parameters.length) = some 0) (hdp : Mc.2.2.2.2 < M.2.2.2.2) (hml : Mc.2.2.1 ≤ 31) (hkn : zkn X (k + mc1) (n + ms1)) (hrest : (rest.map fun v => v.category).sum ≤ 8) (hd : decode M.2.1 pc = .ok (.invokespecial i, 3)) (hM : zMetC (zl X) y Mc mc1 ms1 [.ref b] h K) (kk : ∀ rc : pR, K rc → Z X M (k + mc1) (n + ms1) rc.2 (pc + 3) lv (rc.1.toList ++ rest)) : Z X M k n h pc lv (.ref b :: rest) := by
  refine y_back (K := K) (av := [.ref b]) (rest := rest) (mc1 := mc1) (ms1 := ms1) (fun hX H locs ls hR hl => ?_) kk
  obtain ⟨p, l, e, s, m, args, below, meth, c, D, cT, h0, Q, mc, ms⟩ := X
  obtain ⟨o1, o2, o3, o4, o5⟩ := Mc
  cases hret
  have hG : GoodIn zTg (.code y o2 o3 none :: zTg) := by
    intro w h9
    rcases List.mem_cons.mp h9 with rfl | h9
    · exact zTg_good hcode
    · exact zTg_good h9
  exact va_runIN (As := []) ⟨hX.1, hX.2.1, hX.2.2.1, hX.2.2.2.1, hX.2.2.2.2.1⟩ (hM D cT H.size) ⟨va_cnB 0 hX.2.2.2.2.1 hG rfl rfl rfl (hX.2.2.2.2.2.2.1 _ hw.1) (hX.2.2.2.2.1 _ hw.2.2) hy (zRoom_ok2 hdp hml), hy1, hX.2.2.2.2.1 _ hw.2.1⟩ ⟨zPreC_blind, fun U hU hW => ⟨rfl, ⟨by rw [hU], by rw [hU]; exact hR.1, va_K.moved hW.alike hX.2.2.2.2.2.1, zNw.warm hW hX.2.2.2.2.2.2.1, hR.2.1.weaken (fun _ _ _ _ => trivial)⟩, zAO.moved hW.alike hC.1⟩⟩ rfl rfl hl.1 rfl (lv_room hrest) hd ⟨hkn.1, hkn.2⟩
theorem zMetC_of {l : Launch} {y : MethodName} {M : zM} {mc ms : Nat} {av : List Value} {h : pH} {K : pR → Prop} (hy : plainName y.cls = true) (hyM : y.cls = M.1) (hyn : y.name = "<init>") (hlen : (lg_sl av).length ≤ M.2.2.1)
    (body : ∀ X : zX, zCOK X → zQc X K → zkn X mc ms → zl X = l → Z X M 0 0 h 0 (lv_args 0 av) []) : zMetC l y M mc ms av h K := by
  intro D cT sz
  refine Met.ofW (cc := M.2.1) (maxL := M.2.2.1) (ret := M.2.2.2.1) hy rfl ?_
  intro p e s m args below meth c s₁ B hml hv
  obtain ⟨rfl, ⟨hsz, hP, hK, hNw, hD0⟩, hAO⟩ := hv
  have hts := atoms_spec (ws := .code y M.2.1 M.2.2.1 M.2.2.2.1 :: zTg) B.pre
  have hown : s.vm.findClass M.1 = some m.cls := by rw [← hyM]; exact findClass_of_methodNamed B.named
  have hin : meth.name = "<init>" := by rw [← hyn]; exact (name_of_methodNamed B.named B.method).1
  subst hsz
  have hl := lv_entry av (n := M.2.2.1) hlen
  rw [lg_entry_eq]
  generalize (lg_sl av ++ List.replicate (M.2.2.1 - (lg_sl av).length) Slot.unset).toArray = ls at hl ⊢
  exact body (p, l, e, s, m, av.toArray, below, meth, c, D, cT, h, _, mc, ms) ⟨hAO, hin⟩ rfl ⟨Nat.le_refl _, Nat.le_refl _⟩ rfl ⟨B.exec, B.bytes, hml, hown, fun w h9 => hts w (List.mem_cons_of_mem _ h9), hK, hNw, B.returns, B.notSynchronized⟩ s.heap [] ls ⟨hP, hD0.self, va_S.rf⟩ hl
/-- an object is put into an array of Graph -/
def sR (h : pH) (a : Nat) (i : Int32) (v : Nat) : Option pH := match oA h a 2 with
  | some (n, .inr (.inr (.inr (.inr f)))) => if vin i n && oC h v 0 then some (h.1, va_up h.2 a (.inl (2, n, .inr (.inr (.inr (.inr (va_up f i.toNatClampNeg (some v)))))))) else none
  | _ => none
theorem y_aastore {a v : Nat} {i : Int32} {h1 : pH} (hd : decode M.2.1 pc = .ok (.aastore, 1)) (e1 : sR h a i v = some h1) (kk : Z X M k n h1 (pc + 1) lv st) : Z X M k n h pc lv (.ref v :: .int i :: .ref a :: st) := by
  intro hX H locs ls hR hl
  have kk := kk hX
  unfold sR at e1
  split at e1
  · rename_i N f hf
    split at e1
    · rename_i hb
      rw [Bool.and_eq_true] at hb
      cases e1
      obtain ⟨ha, hfa⟩ := oA_some hf
      obtain ⟨hv, fs, hfv⟩ := oC_some hb.2
      obtain ⟨p, l, e, s, m, args, below, meth, c, D, cT, h0, Q, mc, ms⟩ := X
      obtain ⟨q, hq⟩ := zw_at (cT := cT) ha
      have hq2 := hq
      rw [hfa] at hq
      obtain ⟨q9, hq9⟩ := zw_at (cT := cT) hv
      rw [hfv] at hq9
      refine va_astq (r := (nR0, nT0, 2)) hX.1 hX.2.1 hX.2.2.2.2.2.1 hR.1 hR.2.1 hR.2.2 q 2 q9 0 hq rfl hq9 rfl (vin_in hb.1) hd (fun H1 locs1 hP hD hS => ?_)
      have e := zw_set (x := .inl (2, N, .inr (.inr (.inr (.inr (va_up f i.toNatClampNeg (some v))))))) hR.2.1 ha hq2
      exact kk H1 locs1 ls ⟨e ▸ hP, e ▸ hD, hS⟩ hl
    · cases e1
  · cases e1
theorem y_getR {ci j i a v : Nat} {C : String} {T : u_T} {N : Nat} (hc : zcl[ci]? = some (C, T, N)) (hj : j < N) (hw : Cond.fieldLink M.1 i (T j).1 (T j).2.1 (T j).2.2.1 ∈ zTg) (hd : decode M.2.1 pc = .ok (.getfield i, 3)) (e : gR h a ci j = some v) (kk : Z X M k n h (pc + 3) lv (.ref v :: st)) : Z X M k n h pc lv (.ref a :: st) :=
  z_getR (f := fun _ => some ()) (r := ()) hc hj hw hd (by rw [e]; rfl) (fun v9 e9 _ => by cases e.symm.trans e9; exact kk)
theorem y_icge {x y : Int32} {off : Int} {tgt : Nat} (hd : decode M.2.1 pc = .ok (.if_icmp .ge off, 3)) (ht : (pc : Int) + off = (tgt : Int)) (kt : y ≤ x → Z X M k n h tgt lv st) (kf : ¬ y ≤ x → Z X M k n h (pc + 3) lv st) : Z X M k n h pc lv (.int y :: .int x :: st) := by
  intro hX H locs ls hR hl
  have e1 := fun q => kt q hX H locs ls hR hl
  have e2 := fun q => kf q hX H locs ls hR hl
  obtain ⟨p, l, e, s, m, args, below, meth, c, D, cT, h0, Q, mc, ms⟩ := X
  exact lv_icmp_ge hX.1 hX.2.1 hd ht e1 e2
end CS
