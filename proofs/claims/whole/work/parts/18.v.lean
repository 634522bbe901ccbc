/-! THE CLAIM OUT OF ONE WALK OF THE LAW'S BODY. Your part is whole_start (and what it stands on); all else here is the same for every law, but numbers. -/
def R_law : String := "MergeGraphsLaw"
def lw_P (b : Addr) (xs : List Int32) (args : Array Value) (s : State) : Prop := args = #[.ref b] ∧ s.IntsAt b xs ∧ xs.length ≤ 2560 ∧ (Jvm.Cond.and given_1 narrow_1).before args s = true
def lw_Q (_ : Array Value) (s : State) (o : Outcome) (t : State) : Prop := o = .returned (some (.int 1)) ∧ Framed s o t [] 601024 7293034
def lw_Z (below : List Frame) (a : Array Value) (s : State) : State → Prop := fun t => ∃ o, t.status = .running ∧ Ended t below o ∧ lw_Q a s o t
/-- the law's own end, with 1 on the stack, nothing written that was there before, its room as the claim has it -/
theorem lw_retR {R : Room} {p : Program} {l : Launch} {e : Env} {s : State} {m : MethodId} {below : List Frame} {meth : Method} {c : Code} {b : Nat} (hx : p.tables.exec = Jvm.exec) (hb : c.code = code) (hr : meth.sig.returnType = ret) (hlocks : meth.locks = false) {pc : Nat} {H : Heap} {ls : Array Slot} (hdg : decode code pc = .ok (.ireturn, 1)) : W p l e R s m #[Value.ref b] below meth c H [] 601024 7293034 (lw_Z below #[Value.ref b] s) (F0 m pc ls [.int 1]) := by
  intro T hT X
  obtain ⟨fs, hret, hrun, hended, hW, hframe⟩ := X.leave (v := some (.int 1)) (hlocks := hlocks) (fun h => by rw [hr] at h; cases h)
  have hmeth' : T.vm.method? m = some meth := X.method'
  refine ⟨T.setFrames fs, ?_, .returned (some (.int 1)), hrun, hended, rfl, ⟨_, rfl⟩, hW, hframe⟩
  jvm_step X.here [X.here.top, hx, hb, hdg, hmeth', hr, ret, narrow_b1]
  (try refine ⟨rfl, ?_⟩); (try refine ⟨rfl, ?_⟩)
  first | (intro acts; rw [hret _ acts rfl rfl rfl]) | rw [hret _ _ rfl rfl rfl]
  exact Steps.refl _
/-- what holds at the law's entry: the machine, the code, the tables' words (any of lw_tbl by 'hts w (by decide +kernel)'), the script of L ints xs at the cell b, what the Statement gives of the start (any of its parts by flat_of_before) -/
def lw_At (p : Program) (s : State) (m : MethodId) (meth : Method) (c : Code) (b L : Nat) (xs : Nat → Int32) : Prop :=
  p.tables.exec = Jvm.exec ∧ c.code = code ∧ meth.sig.returnType = ret ∧ c.maxLocals = 7 ∧ s.vm.findClass R_law = some m.cls ∧ (∀ w ∈ lw_tbl, w.before #[Value.ref b] s = true) ∧ va_X b L xs s s.heap ∧ b < s.heap.size ∧ meth.locks = false ∧ (Jvm.Cond.and given_1 narrow_1).before #[Value.ref b] s = true

def zQL (X : zX) : Prop := match X with
  | (_, _, _, s, _, args, below, _, _, _, _, h0, Q, mc, ms) => (∃ b : Nat, args = #[.ref b]) ∧ Q = lw_Z below args s ∧ mc = 601024 ∧ ms = 7293034 ∧ h0.1 = []
def zSC (X : zX) (b L : Nat) (xs : Nat → Int32) : Prop := match X with
  | (_, _, _, s, _, _, _, _, _, _, _, h0, _, _, _) => va_X b L xs s s.heap ∧ b < s.heap.size ∧ h0.1 = []
def zLA (X : zX) : Prop := match X with
  | (_, l, _, s, _, _, _, _, _, _, cT, h0, _, _, _) => zThr (va_A (zw cT h0) s.heap.size) s s.heap ∧ l.stackTraces = false ∧ zNc s ∧ zAO s
/-- an int of the script -/
def scr (L : Nat) (xs : Nat → Int32) (i : Int32) : Option Int32 := if vin i L then some (xs i.toNatClampNeg) else none
section VS
variable {X : zX} {M : zM} {k n : Nat} {h : pH} {pc : Nat} {lv lv2 : List (Nat × Value)} {st : List Value}
theorem zLA_l (hT : zLA X) : (zl X).stackTraces = false := by
  obtain ⟨p, l, e, s, m, args, below, meth, c, D, cT, h0, Q, mc, ms⟩ := X
  exact hT.2.1
theorem zA_nil {cT : Nat → ClassId} {h0 : pH} {sz q : Nat} (h9 : h0.1 = []) (hq : va_A (zw cT h0) sz q) : sz ≤ q := by
  rcases hq with ⟨j, x, hx⟩ | hq
  · simp [zw, va_pl, h9] at hx
  · exact hq
theorem v_sld {b L : Nat} {xs : Nat → Int32} {i : Int32} {α : Type} {f : Int32 → Option α} {r : α} (hS : zSC X b L xs) (hd : decode M.2.1 pc = .ok (.iaload, 1)) (E : (scr L xs i).bind f = some r) (kk : ∀ v, scr L xs i = some v → f v = some r → Z X M k n h (pc + 1) lv (.int v :: st)) : Z X M k n h pc lv (.int i :: .ref b :: st) := by
  intro hX H locs ls hR hl
  obtain ⟨v, e1, e2⟩ := bd_some E
  have kk := kk v e1 e2 hX H locs ls hR hl
  unfold scr at e1
  split at e1
  · rename_i hv
    cases e1
    obtain ⟨p, l, e, s, m, args, below, meth, c, D, cT, h0, Q, mc, ms⟩ := X
    exact va_sld hX.1 hX.2.1 hS.1 hS.2.1 (fun q => by have := zA_nil hS.2.2 q; have := hS.2.1; omega) hR.2.2 (vin_in hv) hd kk
  · cases e1
theorem v_slen {b L : Nat} {xs : Nat → Int32} (hS : zSC X b L xs) (hd : decode M.2.1 pc = .ok (.arraylength, 1)) (kk : Z X M k n h (pc + 1) lv (.int (Int32.ofNat L) :: st)) : Z X M k n h pc lv (.ref b :: st) := by
  intro hX H locs ls hR hl
  have kk := kk hX H locs ls hR hl
  obtain ⟨p, l, e, s, m, args, below, meth, c, D, cT, h0, Q, mc, ms⟩ := X
  exact va_slen hX.1 hX.2.1 hS.1 hS.2.1 (fun q => by have := zA_nil hS.2.2 q; have := hS.2.1; omega) hR.2.2 hd kk
theorem v_zreturn {v : Int32} {r : pR} (hQ : zQL X) (hr1 : r.1 = some (.int 1)) (hM : M.2.1 = code) (hMr : M.2.2.2.1 = ret) (hkn : zkn X k n) (hd : decode code pc = .ok (.ireturn, 1)) (E : (if isZ v = true then some ((some (.int v), h) : pR) else none) = some r) : Z X M k n h pc lv [.int v] := by
  intro hX H locs ls hR hl
  have hv : v = 1 := by
    split at E
    · cases E
      cases hr1
      rfl
    · cases E
  subst hv
  obtain ⟨p, l, e, s, m, args, below, meth, c, D, cT, h0, Q, mc, ms⟩ := X
  obtain ⟨⟨b, rfl⟩, rfl, rfl, rfl, h9⟩ := hQ
  refine va_forget (fun q hq => zA_nil h9 (hR.2.2.2.2 q hq)) (W.widen hkn.1 hkn.2 ?_)
  exact lw_retR hX.1 (hX.2.1.trans hM) (hX.2.2.2.2.2.2.2.1.trans hMr) hX.2.2.2.2.2.2.2.2 hd
theorem v_back {rc : pR} {rest av : List Value} {mc1 ms1 : Nat} (hk0 : zOK X M → ∀ (H : Heap) (locs : List Loc) (ls : Array Slot), zR X h H locs → lv_has ls M.2.2.1 lv → match X with
    | (p, l, e, s, m, args, below, meth, c, D, cT, _, _, mc, ms) => va_Run p l e (zRoom M.2.2.2.2 mc ms) s m args below meth c H locs k n mc1 ms1 (F0 m pc ls st) rest (zPost D cT H.size h rc av.toArray) (va_A (zw cT h) H.size))
    (kk : Z X M (k + mc1) (n + ms1) rc.2 (pc + 3) lv (rc.1.toList ++ rest)) : Z X M k n h pc lv st := by
  refine y_back (K := fun r => r = rc) (av := av) (rest := rest) (mc1 := mc1) (ms1 := ms1) (fun hX H locs ls hR hl => ?_) (fun rc9 h9 => h9 ▸ kk)
  have run := hk0 hX H locs ls hR hl
  obtain ⟨p, l, e, s, m, args, below, meth, c, D, cT, h0, Q, mc, ms⟩ := X
  intro T hT XX
  obtain ⟨v, st0, t, T', L, e0, X', hL, e1, e2, hq, go⟩ := run T hT XX
  exact ⟨v, st0, t, T', L, e0, X', hL, e1, e2, ⟨rc, rfl, hq⟩, go⟩
theorem zPreW_blind {D : va_G} {cT : Nat → ClassId} {sz : Nat} {av : List Value} : FrameBlind (va_Pc av (zPreW D cT sz h)) := by
  intro a U g mk q
  obtain ⟨q1, q2, q3⟩ := q
  have q4 := zPreT_blind (h := h) (D := D) (cT := cT) (sz := sz) (av := av) a U g mk ⟨q1, q2⟩
  exact ⟨q1, q4.2, va_Nc.moved (u := U) (U := U.calling g mk a) (Vm.Alike.refl U.vm) q3⟩
theorem v_invSW {i : Nat} {y : MethodName} {Mc : zM} {hh : List (Nat × Nat × Nat × Nat)} {av rest : List Value} {rc : pR} {mc1 ms1 : Nat} (hT : zLA X) (hw : Cond.methodLink M.1 i y ∈ zTg ∧ Cond.static y ∈ zTg ∧ Cond.initialized y.cls ∈ zTg) (hcode : Cond.codeWith y Mc.2.1 Mc.2.2.1 Mc.2.2.2.1 hh ∈ zTg) (hy : y.cls ≠ "java/lang/invoke/MethodHandle" ∧ y.cls ≠ "java/lang/invoke/VarHandle" ∧ (parseMethodDescriptor y.desc).map (fun d => d.parameters.length) = some av.length) (hdp : Mc.2.2.2.2 < M.2.2.2.2) (hml : Mc.2.2.1 ≤ 31) (hkn : zkn X (k + mc1) (n + ms1)) (hst : st = av.reverse ++ rest) (hrest : (rest.map fun v => v.category).sum ≤ 8) (hd : decode M.2.1 pc = .ok (.invokestatic i, 3)) (hM : zMetW (zl X) y Mc hh mc1 ms1 av h rc) (kk : Z X M (k + mc1) (n + ms1) rc.2 (pc + 3) lv (rc.1.toList ++ rest)) : Z X M k n h pc lv st := by
  refine v_back (av := av) (fun hX H locs ls hR hl => ?_) kk
  obtain ⟨p, l, e, s, m, args, below, meth, c, D, cT, h0, Q, mc, ms⟩ := X
  have hG : GoodIn zTg (va_wsS M.1 i y (.codeWith y Mc.2.1 Mc.2.2.1 Mc.2.2.2.1 hh :: zTg)) := by
    intro w h9
    rcases List.mem_append.mp h9 with h9 | h9
    · rcases List.mem_cons.mp h9 with rfl | h9
      · exact zTg_good hw.1
      · rcases List.mem_cons.mp h9 with rfl | h9
        · exact zTg_good hw.2.1
        · rcases List.mem_cons.mp h9 with rfl | h9
          · exact zTg_good hw.2.2
          · cases h9
    · rcases List.mem_cons.mp h9 with rfl | h9
      · exact zTg_good hcode
      · exact zTg_good h9
  have hF : ∀ q, va_A (zw cT h) H.size q → va_A (zw cT h0) s.heap.size q := by
    intro q hq
    rcases hq with ⟨j, x, hx⟩ | hq
    · exact hR.2.1.2 j _ hx
    · exact Or.inr (Nat.le_trans hR.2.2.1 hq)
  exact vx_runSW ⟨hX.1, hX.2.1, hX.2.2.1, hX.2.2.2.1, hX.2.2.2.2.1⟩ (hM D cT H.size) (vx_cwSW av.length hX.2.2.2.2.1 hG rfl rfl rfl hy (zRoom_ok2 hdp hml)) ⟨zPreW_blind, fun U hU hW => ⟨rfl, ⟨⟨by rw [hU], by rw [hU]; exact hR.1, va_K.moved hW.alike hX.2.2.2.2.2.1, zNw.warm hW hX.2.2.2.2.2.2.1, hR.2.1.weaken (fun _ _ _ _ => trivial)⟩, by rw [hU]; exact (zThr.warm hW (hT.1.kept hR.2.2.2.1)).narrow hF⟩, va_Nc.moved hW.alike hT.2.2.1⟩⟩ rfl rfl hl.1 hst (lv_room hrest) hd ⟨hkn.1, hkn.2⟩
/-- a constructor, by a plain link -/
theorem v_invI {i b : Nat} {y : MethodName} {Mc : zM} {rest : List Value} {K : pR → Prop} {mc1 ms1 : Nat} (hT : zLA X) (hy1 : y.name = "<init>") (hret : Mc.2.2.2.1 = none) (hw : Cond.methodLink M.1 i y ∈ zTg ∧ Cond.instanceMethod y ∈ zTg ∧ Cond.initialized y.cls ∈ zTg) (hcode : Cond.code y Mc.2.1 Mc.2.2.1 Mc.2.2.2.1 ∈ zTg) (hy : y.cls ≠ "java/lang/invoke/MethodHandle" ∧ y.cls ≠ "java/lang/invoke/VarHandle" ∧ (parseMethodDescriptor y.desc).map (fun d => d.parameters.length) = some 0) (hdp : Mc.2.2.2.2 < M.2.2.2.2) (hml : Mc.2.2.1 ≤ 31) (hkn : zkn X (k + mc1) (n + ms1)) (hrest : (rest.map fun v => v.category).sum ≤ 8) (hd : decode M.2.1 pc = .ok (.invokespecial i, 3)) (hM : zMetC (zl X) y Mc mc1 ms1 [.ref b] h K) (kk : ∀ rc : pR, K rc → Z X M (k + mc1) (n + ms1) rc.2 (pc + 3) lv (rc.1.toList ++ rest)) : Z X M k n h pc lv (.ref b :: rest) := by
  refine y_back (K := K) (av := [.ref b]) (rest := rest) (mc1 := mc1) (ms1 := ms1) (fun hX H locs ls hR hl => ?_) kk
  obtain ⟨p, l, e, s, m, args, below, meth, c, D, cT, h0, Q, mc, ms⟩ := X
  obtain ⟨o1, o2, o3, o4, o5⟩ := Mc
  cases hret
  have hG : GoodIn zTg (.code y o2 o3 none :: zTg) := by
    intro w h9
    rcases List.mem_cons.mp h9 with rfl | h9
    · exact zTg_good hcode
    · exact zTg_good h9
  exact va_runI (As := []) ⟨hX.1, hX.2.1, hX.2.2.1, hX.2.2.2.1, hX.2.2.2.2.1⟩ (hM D cT H.size) (cwI 0 hX.2.2.2.2.1 hG rfl rfl rfl (hX.2.2.2.2.1 _ hw.2.2) (hX.2.2.2.2.1 _ hw.1) (hX.2.2.2.2.1 _ hw.2.1) hy1 hy (zRoom_ok2 hdp hml)) ⟨zPreC_blind, fun U hU hW => ⟨rfl, ⟨by rw [hU], by rw [hU]; exact hR.1, va_K.moved hW.alike hX.2.2.2.2.2.1, zNw.warm hW hX.2.2.2.2.2.2.1, hR.2.1.weaken (fun _ _ _ _ => trivial)⟩, zAO.moved hW.alike hT.2.2.2⟩⟩ rfl rfl hl.1 rfl (lv_room hrest) hd ⟨hkn.1, hkn.2⟩
/-- a walk in a smaller room -/
theorem v_room {p : Program} {l : Launch} {e : Env} {R R' : Room} {s : State} {m : MethodId} {args : Array Value} {below : List Frame} {meth : Method} {c : Code} {H : Heap} {locs : List Loc} {cells slots : Nat} {Q : State → Prop} {g : JFrame} (h1 : R'.frames ≤ R.frames) (h2 : R'.locals ≤ R.locals) (h3 : R'.cells ≤ R.cells) (h4 : R'.slots ≤ R.slots) (kk : W p l e R' s m args below meth c H locs cells slots Q g) : W p l e R s m args below meth c H locs cells slots Q g := by
  intro T hT X
  refine kk T hT { X with room := ?_ }
  have h := X.room
  simp only [State.hasRoom, Bool.and_eq_true, decide_eq_true_eq] at h ⊢
  obtain ⟨⟨⟨⟨g1, g2, g3, g4, g5, g6⟩, g7⟩, g8⟩, g9⟩ := h
  exact ⟨⟨⟨⟨by omega, by omega, by omega, by omega, by omega, g6⟩, by omega⟩, by omega⟩, g9⟩
end VS

