/-! THE PURE HEAP: the addresses that are in use, what lies at each: .inl (kind of array, length and contents), .inr (number of its class, its fields). -/
abbrev pE : Type := (Nat × vp_A) ⊕ (Nat × List Value)
abbrev pH : Type := List Nat × (Nat → pE)
/-- how a call ends: what it returns, and the heap behind it -/
abbrev pR : Type := Option Value × pH
def zcv (cT : Nat → ClassId) (x : pE) : va_E := match x with
  | .inl a => .inl (cT a.1, a.2)
  | .inr o => .inr o
def zw (cT : Nat → ClassId) (h : pH) : va_W := va_pl h.1 (fun a => zcv cT (h.2 a))
/-- what the tables say of every class and every link, as a method's start has it -/
def zNw (U : State) : Prop := ∀ w ∈ zN, va_Nw w U
theorem zNw.warm {s U : State} (hW : s.WarmedH U.vm) (h : zNw s) : zNw U := by
  intro w hw
  rcases zN_form w hw with ⟨a, i, x, b, rfl⟩ | ⟨a, b, rfl⟩ | ⟨x, rfl⟩
  · exact va_Nw.warmM hW (h _ hw)
  · exact va_Nw.warmC hW (h _ hw)
  · exact va_Nw.warmD hW (h _ hw)
theorem zNw.same {u U : State} (hv : u.vm = U.vm) (h : zNw u) : zNw U := by
  intro w hw
  have h1 := h w hw
  rcases zN_form w hw with ⟨a, i, x, b, rfl⟩ | ⟨a, b, rfl⟩ | ⟨x, rfl⟩
  · exact va_Nw.same rfl hv h1
  · exact va_Nw.same rfl hv h1
  · exact va_Nw.same rfl hv h1
def zPre (D : va_G) (cT : Nat → ClassId) (sz : Nat) (h : pH) (U : State) : Prop := U.heap.size = sz ∧ va_P D zcl (zw cT h) U.heap ∧ va_K D zcl (zty cT) U ∧ zNw U ∧ va_D (fun _ => True) (zw cT h)
def zPost (D : va_G) (cT : Nat → ClassId) (sz : Nat) (h : pH) (r : pR) : Array Value → State → Outcome → State → Prop := fun _ st oc t =>
  (oc = .returned r.1 ∧ va_P D zcl (zw cT r.2) t.heap ∧ va_D (va_A (zw cT h) sz) (zw cT r.2)) ∧ va_F (va_A (zw cT h) sz) st t
def zRoom (d mc ms : Nat) : Room := { frames := d, cells := mc, slots := ms, locals := 50 * d }
/-- a method: its class, its bytes, how many words its locals have, what it returns, how deep its calls go -/
abbrev zM : Type := String × ByteArray × Nat × Option FieldType × Nat
/-- THE CONTRACT: from the heap h, with the arguments av, the method y returns r.1 and leaves the heap r.2 -/
def zMet (l : Launch) (y : MethodName) (M : zM) (mc ms : Nat) (av : List Value) (h : pH) (r : pR) : Prop := ∀ (D : va_G) (cT : Nat → ClassId) (sz : Nat),
  Met l y (.code y M.2.1 M.2.2.1 M.2.2.2.1 :: zTg) (zRoom M.2.2.2.2 mc ms) (va_Pc av (zPre D cT sz h)) (zPost D cT sz h r) mc ms (va_A (zw cT h) sz)
/-- all that stays while a method's body is walked: program, launch, environment, the state at the invocation, method, arguments, the frames below, its records, the numbers of the classes and of the classes of arrays, the heap at the start, where it must come to, what it may make -/
abbrev zX : Type := Program × Launch × Env × State × MethodId × Array Value × List Frame × Method × Code × va_G × (Nat → ClassId) × pH × (State → Prop) × Nat × Nat
def zOK (X : zX) (M : zM) : Prop := match X with
  | (p, _, _, s, m, args, _, meth, c, D, cT, _, _, _, _) => p.tables.exec = Jvm.exec ∧ c.code = M.2.1 ∧ c.maxLocals = M.2.2.1 ∧ s.vm.findClass M.1 = some m.cls ∧ (∀ w ∈ zTg, w.before args s = true) ∧ va_K D zcl (zty cT) s ∧ zNw s ∧ meth.sig.returnType = M.2.2.2.1 ∧ meth.locks = false
def zR (X : zX) (h : pH) (H : Heap) (locs : List Loc) : Prop := match X with
  | (_, _, _, s, _, _, _, _, _, D, cT, h0, _, _, _) => va_P D zcl (zw cT h) H ∧ va_D (va_A (zw cT h0) s.heap.size) (zw cT h) ∧ va_S (va_A (zw cT h0) s.heap.size) s.heap H locs
def zW (X : zX) (M : zM) (H : Heap) (locs : List Loc) (k n pc : Nat) (ls : Array Slot) (st : List Value) : Prop := match X with
  | (p, l, e, s, m, args, below, meth, c, _, _, _, Q, mc, ms) => W p l e (zRoom M.2.2.2.2 mc ms) s m args below meth c H locs k n Q (F0 m pc ls st)
/-- the end of a method that returns: r -/
def zQ (X : zX) (r : pR) : Prop := match X with
  | (_, _, _, s, _, args, below, _, _, D, cT, h0, Q, mc, ms) => Q = MQ below (zPost D cT s.heap.size h0 r) args s mc ms (va_A (zw cT h0) s.heap.size)
def zl (X : zX) : Launch := match X with
  | (_, l, _, _, _, _, _, _, _, _, _, _, _, _, _) => l
def zkn (X : zX) (k n : Nat) : Prop := match X with
  | (_, _, _, _, _, _, _, _, _, _, _, _, _, mc, ms) => k ≤ mc ∧ n ≤ ms
theorem z00 {X : zX} : zkn X 0 0 := ⟨Nat.zero_le _, Nat.zero_le _⟩
/-- THE JUDGEMENT: with the pure heap h, at pc, with these locals and this operand stack, k cells of n slots made: the method comes to its end -/
def Z (X : zX) (M : zM) (k n : Nat) (h : pH) (pc : Nat) (lv : List (Nat × Value)) (st : List Value) : Prop :=
  zOK X M → ∀ (H : Heap) (locs : List Loc) (ls : Array Slot), zR X h H locs → lv_has ls M.2.2.1 lv → zW X M H locs k n pc ls st

section ZS
variable {X : zX} {M : zM} {k n : Nat} {h : pH} {pc : Nat} {lv lv2 : List (Nat × Value)} {st : List Value}
theorem z_iconst {j : Int} {v : Int32} (hd : decode M.2.1 pc = .ok (.iconst j, 1)) (hv : Int32.ofInt j = v) (kk : Z X M k n h (pc + 1) lv (.int v :: st)) : Z X M k n h pc lv (st) := by
  intro hX H locs ls hR hl
  have kk := kk hX H locs ls hR hl
  obtain ⟨p, l, e, s, m, args, below, meth, c, D, cT, h0, Q, mc, ms⟩ := X
  exact lv_iconst hX.1 hX.2.1 hd hv kk
theorem z_bipush {j : Int} {v : Int32} (hd : decode M.2.1 pc = .ok (.bipush j, 2)) (hv : (Int8.ofInt j).toInt32 = v) (kk : Z X M k n h (pc + 2) lv (.int v :: st)) : Z X M k n h pc lv (st) := by
  intro hX H locs ls hR hl
  have kk := kk hX H locs ls hR hl
  obtain ⟨p, l, e, s, m, args, below, meth, c, D, cT, h0, Q, mc, ms⟩ := X
  exact lv_bipush hX.1 hX.2.1 hd hv kk
theorem z_sipush {j : Int} {v : Int32} (hd : decode M.2.1 pc = .ok (.sipush j, 3)) (hv : (Int16.ofInt j).toInt32 = v) (kk : Z X M k n h (pc + 3) lv (.int v :: st)) : Z X M k n h pc lv (st) := by
  intro hX H locs ls hR hl
  have kk := kk hX H locs ls hR hl
  obtain ⟨p, l, e, s, m, args, below, meth, c, D, cT, h0, Q, mc, ms⟩ := X
  exact lv_sipush hX.1 hX.2.1 hd hv kk
theorem z_lconst {j : Fin 2} {v : Int64} (hd : decode M.2.1 pc = .ok (.lconst j, 1)) (hv : Int64.ofNat (j : Nat) = v) (kk : Z X M k n h (pc + 1) lv (.long v :: st)) : Z X M k n h pc lv (st) := by
  intro hX H locs ls hR hl
  have kk := kk hX H locs ls hR hl
  obtain ⟨p, l, e, s, m, args, below, meth, c, D, cT, h0, Q, mc, ms⟩ := X
  exact lv_lconst hX.1 hX.2.1 hd hv kk
theorem z_iload_n {i : Nat} {x : Int32} (q : Nat) {j : Fin 4} (hd : decode M.2.1 pc = .ok (.iload_n j, 1)) (hq : lv[q]? = some (i, .int x)) (hj : (j : Nat) = i) (kk : Z X M k n h (pc + 1) lv (.int x :: st)) : Z X M k n h pc lv st := by
  intro hX H locs ls hR hl
  have kk := kk hX H locs ls hR hl
  obtain ⟨p, l, e, s, m, args, below, meth, c, D, cT, h0, Q, mc, ms⟩ := X
  exact lv_iload_n hX.1 hX.2.1 hd hj (lv_at hl q hq) kk
theorem z_iload {i : Nat} {x : Int32} (q : Nat) (hd : decode M.2.1 pc = .ok (.iload i, 2)) (hq : lv[q]? = some (i, .int x)) (kk : Z X M k n h (pc + 2) lv (.int x :: st)) : Z X M k n h pc lv st := by
  intro hX H locs ls hR hl
  have kk := kk hX H locs ls hR hl
  obtain ⟨p, l, e, s, m, args, below, meth, c, D, cT, h0, Q, mc, ms⟩ := X
  exact lv_iload hX.1 hX.2.1 hd (lv_at hl q hq) kk
theorem z_istore_n {i : Nat} {x : Int32} {j : Fin 4} (hd : decode M.2.1 pc = .ok (.istore_n j, 1)) (hj : (j : Nat) = i) (hi : i < M.2.2.1) (hv : (i, Value.int x) :: lv.filter (fun q => !(q.1 == i) && !(q.1 + 1 == i && q.2.category == 2)) = lv2) (kk : Z X M k n h (pc + 1) lv2 st) : Z X M k n h pc lv (.int x :: st) := by
  intro hX H locs ls hR hl
  have kk := fun ls hl => kk hX H locs ls hR hl
  obtain ⟨p, l, e, s, m, args, below, meth, c, D, cT, h0, Q, mc, ms⟩ := X
  exact lv_istore_n hX.1 hX.2.1 hd hj hl hi hv kk
theorem z_istore {i : Nat} {x : Int32} (hd : decode M.2.1 pc = .ok (.istore i, 2)) (hi : i < M.2.2.1) (hv : (i, Value.int x) :: lv.filter (fun q => !(q.1 == i) && !(q.1 + 1 == i && q.2.category == 2)) = lv2) (kk : Z X M k n h (pc + 2) lv2 st) : Z X M k n h pc lv (.int x :: st) := by
  intro hX H locs ls hR hl
  have kk := fun ls hl => kk hX H locs ls hR hl
  obtain ⟨p, l, e, s, m, args, below, meth, c, D, cT, h0, Q, mc, ms⟩ := X
  exact lv_istore hX.1 hX.2.1 hd hl hi hv kk
theorem z_lload_n {i : Nat} {x : Int64} (q : Nat) {j : Fin 4} (hd : decode M.2.1 pc = .ok (.lload_n j, 1)) (hq : lv[q]? = some (i, .long x)) (hj : (j : Nat) = i) (kk : Z X M k n h (pc + 1) lv (.long x :: st)) : Z X M k n h pc lv st := by
  intro hX H locs ls hR hl
  have kk := kk hX H locs ls hR hl
  obtain ⟨p, l, e, s, m, args, below, meth, c, D, cT, h0, Q, mc, ms⟩ := X
  exact lv_lload_n hX.1 hX.2.1 hd hj (lv_at hl q hq) kk
theorem z_lload {i : Nat} {x : Int64} (q : Nat) (hd : decode M.2.1 pc = .ok (.lload i, 2)) (hq : lv[q]? = some (i, .long x)) (kk : Z X M k n h (pc + 2) lv (.long x :: st)) : Z X M k n h pc lv st := by
  intro hX H locs ls hR hl
  have kk := kk hX H locs ls hR hl
  obtain ⟨p, l, e, s, m, args, below, meth, c, D, cT, h0, Q, mc, ms⟩ := X
  exact lv_lload hX.1 hX.2.1 hd (lv_at hl q hq) kk
theorem z_lstore_n {i : Nat} {x : Int64} {j : Fin 4} (hd : decode M.2.1 pc = .ok (.lstore_n j, 1)) (hj : (j : Nat) = i) (hi : i + 1 < M.2.2.1) (hv : (i, Value.long x) :: lv.filter (fun q => !(q.1 == i) && (!(q.1 == i + 1) && !(q.1 + 1 == i && q.2.category == 2))) = lv2) (kk : Z X M k n h (pc + 1) lv2 st) : Z X M k n h pc lv (.long x :: st) := by
  intro hX H locs ls hR hl
  have kk := fun ls hl => kk hX H locs ls hR hl
  obtain ⟨p, l, e, s, m, args, below, meth, c, D, cT, h0, Q, mc, ms⟩ := X
  exact lv_lstore_n hX.1 hX.2.1 hd hj hl hi hv kk
theorem z_lstore {i : Nat} {x : Int64} (hd : decode M.2.1 pc = .ok (.lstore i, 2)) (hi : i + 1 < M.2.2.1) (hv : (i, Value.long x) :: lv.filter (fun q => !(q.1 == i) && (!(q.1 == i + 1) && !(q.1 + 1 == i && q.2.category == 2))) = lv2) (kk : Z X M k n h (pc + 2) lv2 st) : Z X M k n h pc lv (.long x :: st) := by
  intro hX H locs ls hR hl
  have kk := fun ls hl => kk hX H locs ls hR hl
  obtain ⟨p, l, e, s, m, args, below, meth, c, D, cT, h0, Q, mc, ms⟩ := X
  exact lv_lstore hX.1 hX.2.1 hd hl hi hv kk
theorem z_aload_n {i : Nat} {x : Nat} (q : Nat) {j : Fin 4} (hd : decode M.2.1 pc = .ok (.aload_n j, 1)) (hq : lv[q]? = some (i, .ref x)) (hj : (j : Nat) = i) (kk : Z X M k n h (pc + 1) lv (.ref x :: st)) : Z X M k n h pc lv st := by
  intro hX H locs ls hR hl
  have kk := kk hX H locs ls hR hl
  obtain ⟨p, l, e, s, m, args, below, meth, c, D, cT, h0, Q, mc, ms⟩ := X
  exact lv_aload_n hX.1 hX.2.1 hd hj (lv_at hl q hq) kk
theorem z_aload {i : Nat} {x : Nat} (q : Nat) (hd : decode M.2.1 pc = .ok (.aload i, 2)) (hq : lv[q]? = some (i, .ref x)) (kk : Z X M k n h (pc + 2) lv (.ref x :: st)) : Z X M k n h pc lv st := by
  intro hX H locs ls hR hl
  have kk := kk hX H locs ls hR hl
  obtain ⟨p, l, e, s, m, args, below, meth, c, D, cT, h0, Q, mc, ms⟩ := X
  exact lv_aload hX.1 hX.2.1 hd (lv_at hl q hq) kk
theorem z_astore_n {i : Nat} {x : Nat} {j : Fin 4} (hd : decode M.2.1 pc = .ok (.astore_n j, 1)) (hj : (j : Nat) = i) (hi : i < M.2.2.1) (hv : (i, Value.ref x) :: lv.filter (fun q => !(q.1 == i) && !(q.1 + 1 == i && q.2.category == 2)) = lv2) (kk : Z X M k n h (pc + 1) lv2 st) : Z X M k n h pc lv (.ref x :: st) := by
  intro hX H locs ls hR hl
  have kk := fun ls hl => kk hX H locs ls hR hl
  obtain ⟨p, l, e, s, m, args, below, meth, c, D, cT, h0, Q, mc, ms⟩ := X
  exact lv_astore_n hX.1 hX.2.1 hd hj hl hi hv kk
theorem z_astore {i : Nat} {x : Nat} (hd : decode M.2.1 pc = .ok (.astore i, 2)) (hi : i < M.2.2.1) (hv : (i, Value.ref x) :: lv.filter (fun q => !(q.1 == i) && !(q.1 + 1 == i && q.2.category == 2)) = lv2) (kk : Z X M k n h (pc + 2) lv2 st) : Z X M k n h pc lv (.ref x :: st) := by
  intro hX H locs ls hR hl
  have kk := fun ls hl => kk hX H locs ls hR hl
  obtain ⟨p, l, e, s, m, args, below, meth, c, D, cT, h0, Q, mc, ms⟩ := X
  exact lv_astore hX.1 hX.2.1 hd hl hi hv kk
theorem z_iinc {i : Nat} {j : Int} {x v : Int32} (q : Nat) (hd : decode M.2.1 pc = .ok (.iinc i j, 3)) (hq : lv[q]? = some (i, .int x)) (hv : x + Int32.ofInt j = v) (hi : i < M.2.2.1) (hw : (i, Value.int v) :: lv.filter (fun q => !(q.1 == i) && !(q.1 + 1 == i && q.2.category == 2)) = lv2) (kk : Z X M k n h (pc + 3) lv2 st) : Z X M k n h pc lv st := by
  intro hX H locs ls hR hl
  have kk := fun ls hl => kk hX H locs ls hR hl
  obtain ⟨p, l, e, s, m, args, below, meth, c, D, cT, h0, Q, mc, ms⟩ := X
  exact lv_iinc hX.1 hX.2.1 hd hl hq hv hi hw kk
theorem z_iadd {x y : Int32} (hd : decode M.2.1 pc = .ok (.iadd, 1)) (kk : Z X M k n h (pc + 1) lv (.int (x + y) :: st)) : Z X M k n h pc lv (.int y :: .int x :: st) := by
  intro hX H locs ls hR hl
  have kk := kk hX H locs ls hR hl
  obtain ⟨p, l, e, s, m, args, below, meth, c, D, cT, h0, Q, mc, ms⟩ := X
  exact lv_iadd hX.1 hX.2.1 hd kk
theorem z_isub {x y : Int32} (hd : decode M.2.1 pc = .ok (.isub, 1)) (kk : Z X M k n h (pc + 1) lv (.int (x - y) :: st)) : Z X M k n h pc lv (.int y :: .int x :: st) := by
  intro hX H locs ls hR hl
  have kk := kk hX H locs ls hR hl
  obtain ⟨p, l, e, s, m, args, below, meth, c, D, cT, h0, Q, mc, ms⟩ := X
  exact lv_isub hX.1 hX.2.1 hd kk
theorem z_imul {x y : Int32} (hd : decode M.2.1 pc = .ok (.imul, 1)) (kk : Z X M k n h (pc + 1) lv (.int (x * y) :: st)) : Z X M k n h pc lv (.int y :: .int x :: st) := by
  intro hX H locs ls hR hl
  have kk := kk hX H locs ls hR hl
  obtain ⟨p, l, e, s, m, args, below, meth, c, D, cT, h0, Q, mc, ms⟩ := X
  exact lv_imul hX.1 hX.2.1 hd kk
theorem z_iand {x y : Int32} (hd : decode M.2.1 pc = .ok (.iand, 1)) (kk : Z X M k n h (pc + 1) lv (.int (x &&& y) :: st)) : Z X M k n h pc lv (.int y :: .int x :: st) := by
  intro hX H locs ls hR hl
  have kk := kk hX H locs ls hR hl
  obtain ⟨p, l, e, s, m, args, below, meth, c, D, cT, h0, Q, mc, ms⟩ := X
  exact lv_iand hX.1 hX.2.1 hd kk
theorem z_ior {x y : Int32} (hd : decode M.2.1 pc = .ok (.ior, 1)) (kk : Z X M k n h (pc + 1) lv (.int (x ||| y) :: st)) : Z X M k n h pc lv (.int y :: .int x :: st) := by
  intro hX H locs ls hR hl
  have kk := kk hX H locs ls hR hl
  obtain ⟨p, l, e, s, m, args, below, meth, c, D, cT, h0, Q, mc, ms⟩ := X
  exact lv_ior hX.1 hX.2.1 hd kk
theorem z_ixor {x y : Int32} (hd : decode M.2.1 pc = .ok (.ixor, 1)) (kk : Z X M k n h (pc + 1) lv (.int (x ^^^ y) :: st)) : Z X M k n h pc lv (.int y :: .int x :: st) := by
  intro hX H locs ls hR hl
  have kk := kk hX H locs ls hR hl
  obtain ⟨p, l, e, s, m, args, below, meth, c, D, cT, h0, Q, mc, ms⟩ := X
  exact lv_ixor hX.1 hX.2.1 hd kk
theorem z_ladd {x y : Int64} (hd : decode M.2.1 pc = .ok (.ladd, 1)) (kk : Z X M k n h (pc + 1) lv (.long (x + y) :: st)) : Z X M k n h pc lv (.long y :: .long x :: st) := by
  intro hX H locs ls hR hl
  have kk := kk hX H locs ls hR hl
  obtain ⟨p, l, e, s, m, args, below, meth, c, D, cT, h0, Q, mc, ms⟩ := X
  exact lv_ladd hX.1 hX.2.1 hd kk
theorem z_lsub {x y : Int64} (hd : decode M.2.1 pc = .ok (.lsub, 1)) (kk : Z X M k n h (pc + 1) lv (.long (x - y) :: st)) : Z X M k n h pc lv (.long y :: .long x :: st) := by
  intro hX H locs ls hR hl
  have kk := kk hX H locs ls hR hl
  obtain ⟨p, l, e, s, m, args, below, meth, c, D, cT, h0, Q, mc, ms⟩ := X
  exact lv_lsub hX.1 hX.2.1 hd kk
theorem z_lmul {x y : Int64} (hd : decode M.2.1 pc = .ok (.lmul, 1)) (kk : Z X M k n h (pc + 1) lv (.long (x * y) :: st)) : Z X M k n h pc lv (.long y :: .long x :: st) := by
  intro hX H locs ls hR hl
  have kk := kk hX H locs ls hR hl
  obtain ⟨p, l, e, s, m, args, below, meth, c, D, cT, h0, Q, mc, ms⟩ := X
  exact lv_lmul hX.1 hX.2.1 hd kk
theorem z_land {x y : Int64} (hd : decode M.2.1 pc = .ok (.land, 1)) (kk : Z X M k n h (pc + 1) lv (.long (x &&& y) :: st)) : Z X M k n h pc lv (.long y :: .long x :: st) := by
  intro hX H locs ls hR hl
  have kk := kk hX H locs ls hR hl
  obtain ⟨p, l, e, s, m, args, below, meth, c, D, cT, h0, Q, mc, ms⟩ := X
  exact lv_land hX.1 hX.2.1 hd kk
theorem z_lor {x y : Int64} (hd : decode M.2.1 pc = .ok (.lor, 1)) (kk : Z X M k n h (pc + 1) lv (.long (x ||| y) :: st)) : Z X M k n h pc lv (.long y :: .long x :: st) := by
  intro hX H locs ls hR hl
  have kk := kk hX H locs ls hR hl
  obtain ⟨p, l, e, s, m, args, below, meth, c, D, cT, h0, Q, mc, ms⟩ := X
  exact lv_lor hX.1 hX.2.1 hd kk
theorem z_lxor {x y : Int64} (hd : decode M.2.1 pc = .ok (.lxor, 1)) (kk : Z X M k n h (pc + 1) lv (.long (x ^^^ y) :: st)) : Z X M k n h pc lv (.long y :: .long x :: st) := by
  intro hX H locs ls hR hl
  have kk := kk hX H locs ls hR hl
  obtain ⟨p, l, e, s, m, args, below, meth, c, D, cT, h0, Q, mc, ms⟩ := X
  exact lv_lxor hX.1 hX.2.1 hd kk
theorem z_ineg {x : Int32} (hd : decode M.2.1 pc = .ok (.ineg, 1)) (kk : Z X M k n h (pc + 1) lv (.int (-x) :: st)) : Z X M k n h pc lv (.int x :: st) := by
  intro hX H locs ls hR hl
  have kk := kk hX H locs ls hR hl
  obtain ⟨p, l, e, s, m, args, below, meth, c, D, cT, h0, Q, mc, ms⟩ := X
  exact lv_ineg hX.1 hX.2.1 hd kk
theorem z_lneg {x : Int64} (hd : decode M.2.1 pc = .ok (.lneg, 1)) (kk : Z X M k n h (pc + 1) lv (.long (-x) :: st)) : Z X M k n h pc lv (.long x :: st) := by
  intro hX H locs ls hR hl
  have kk := kk hX H locs ls hR hl
  obtain ⟨p, l, e, s, m, args, below, meth, c, D, cT, h0, Q, mc, ms⟩ := X
  exact lv_lneg hX.1 hX.2.1 hd kk
theorem z_ishl {x y : Int32} (hd : decode M.2.1 pc = .ok (.ishl, 1)) (kk : Z X M k n h (pc + 1) lv (.int (x <<< (y &&& 31)) :: st)) : Z X M k n h pc lv (.int y :: .int x :: st) := by
  intro hX H locs ls hR hl
  have kk := kk hX H locs ls hR hl
  obtain ⟨p, l, e, s, m, args, below, meth, c, D, cT, h0, Q, mc, ms⟩ := X
  exact lv_ishl hX.1 hX.2.1 hd kk
theorem z_ishr {x y : Int32} (hd : decode M.2.1 pc = .ok (.ishr, 1)) (kk : Z X M k n h (pc + 1) lv (.int (x >>> (y &&& 31)) :: st)) : Z X M k n h pc lv (.int y :: .int x :: st) := by
  intro hX H locs ls hR hl
  have kk := kk hX H locs ls hR hl
  obtain ⟨p, l, e, s, m, args, below, meth, c, D, cT, h0, Q, mc, ms⟩ := X
  exact lv_ishr hX.1 hX.2.1 hd kk
theorem z_lshl {x : Int64} {y : Int32} (hd : decode M.2.1 pc = .ok (.lshl, 1)) (kk : Z X M k n h (pc + 1) lv (.long (x <<< (y.toInt64 &&& 63)) :: st)) : Z X M k n h pc lv (.int y :: .long x :: st) := by
  intro hX H locs ls hR hl
  have kk := kk hX H locs ls hR hl
  obtain ⟨p, l, e, s, m, args, below, meth, c, D, cT, h0, Q, mc, ms⟩ := X
  exact lv_lshl hX.1 hX.2.1 hd rfl kk
theorem z_lshr {x : Int64} {y : Int32} (hd : decode M.2.1 pc = .ok (.lshr, 1)) (kk : Z X M k n h (pc + 1) lv (.long (x >>> (y.toInt64 &&& 63)) :: st)) : Z X M k n h pc lv (.int y :: .long x :: st) := by
  intro hX H locs ls hR hl
  have kk := kk hX H locs ls hR hl
  obtain ⟨p, l, e, s, m, args, below, meth, c, D, cT, h0, Q, mc, ms⟩ := X
  exact lv_lshr hX.1 hX.2.1 hd rfl kk
theorem z_lushr {x : Int64} {y : Int32} (hd : decode M.2.1 pc = .ok (.lushr, 1)) (kk : Z X M k n h (pc + 1) lv (.long ((x.toUInt64 >>> (y.toInt64.toUInt64 &&& Int64.toUInt64 63)).toInt64) :: st)) : Z X M k n h pc lv (.int y :: .long x :: st) := by
  intro hX H locs ls hR hl
  have kk := kk hX H locs ls hR hl
  obtain ⟨p, l, e, s, m, args, below, meth, c, D, cT, h0, Q, mc, ms⟩ := X
  exact lv_lushr hX.1 hX.2.1 hd rfl kk
theorem z_i2l {x : Int32} (hd : decode M.2.1 pc = .ok (.i2l, 1)) (kk : Z X M k n h (pc + 1) lv (.long x.toInt64 :: st)) : Z X M k n h pc lv (.int x :: st) := by
  intro hX H locs ls hR hl
  have kk := kk hX H locs ls hR hl
  obtain ⟨p, l, e, s, m, args, below, meth, c, D, cT, h0, Q, mc, ms⟩ := X
  exact lv_i2l hX.1 hX.2.1 hd rfl kk
theorem z_l2i {x : Int64} (hd : decode M.2.1 pc = .ok (.l2i, 1)) (kk : Z X M k n h (pc + 1) lv (.int x.toInt32 :: st)) : Z X M k n h pc lv (.long x :: st) := by
  intro hX H locs ls hR hl
  have kk := kk hX H locs ls hR hl
  obtain ⟨p, l, e, s, m, args, below, meth, c, D, cT, h0, Q, mc, ms⟩ := X
  exact lv_l2i hX.1 hX.2.1 hd rfl kk
theorem z_lcmp {x y : Int64} (hd : decode M.2.1 pc = .ok (.lcmp, 1)) (kk : Z X M k n h (pc + 1) lv (.int (lg_cmp x y) :: st)) : Z X M k n h pc lv (.long y :: .long x :: st) := by
  intro hX H locs ls hR hl
  have kk := kk hX H locs ls hR hl
  obtain ⟨p, l, e, s, m, args, below, meth, c, D, cT, h0, Q, mc, ms⟩ := X
  exact W.lcmp hX.1 hX.2.1 hd kk
theorem z_dup {va : Value} (hd : decode M.2.1 pc = .ok (.dup, 1)) (ha : va.category = 1) (kk : Z X M k n h (pc + 1) lv (va :: va :: st)) : Z X M k n h pc lv (va :: st) := by
  intro hX H locs ls hR hl
  have kk := kk hX H locs ls hR hl
  obtain ⟨p, l, e, s, m, args, below, meth, c, D, cT, h0, Q, mc, ms⟩ := X
  exact lv_dup hX.1 hX.2.1 hd ha kk
theorem z_pop {va : Value} (hd : decode M.2.1 pc = .ok (.pop, 1)) (ha : va.category = 1) (kk : Z X M k n h (pc + 1) lv (st)) : Z X M k n h pc lv (va :: st) := by
  intro hX H locs ls hR hl
  have kk := kk hX H locs ls hR hl
  obtain ⟨p, l, e, s, m, args, below, meth, c, D, cT, h0, Q, mc, ms⟩ := X
  exact lv_pop hX.1 hX.2.1 hd ha kk
theorem z_dup_x1 {va vb : Value} (hd : decode M.2.1 pc = .ok (.dup_x1, 1)) (ha : va.category = 1) (hb : vb.category = 1) (kk : Z X M k n h (pc + 1) lv (va :: vb :: va :: st)) : Z X M k n h pc lv (va :: vb :: st) := by
  intro hX H locs ls hR hl
  have kk := kk hX H locs ls hR hl
  obtain ⟨p, l, e, s, m, args, below, meth, c, D, cT, h0, Q, mc, ms⟩ := X
  exact lv_dup_x1 hX.1 hX.2.1 hd ha hb kk
theorem z_dup_x2 {va vb vd : Value} (hd : decode M.2.1 pc = .ok (.dup_x2, 1)) (ha : va.category = 1) (hb : vb.category = 1) (hc : vd.category = 1) (kk : Z X M k n h (pc + 1) lv (va :: vb :: vd :: va :: st)) : Z X M k n h pc lv (va :: vb :: vd :: st) := by
  intro hX H locs ls hR hl
  have kk := kk hX H locs ls hR hl
  obtain ⟨p, l, e, s, m, args, below, meth, c, D, cT, h0, Q, mc, ms⟩ := X
  exact lv_dup_x2 hX.1 hX.2.1 hd ha hb hc kk
theorem z_dup2 {va vb : Value} (hd : decode M.2.1 pc = .ok (.dup2, 1)) (ha : va.category = 1) (hb : vb.category = 1) (kk : Z X M k n h (pc + 1) lv (va :: vb :: va :: vb :: st)) : Z X M k n h pc lv (va :: vb :: st) := by
  intro hX H locs ls hR hl
  have kk := kk hX H locs ls hR hl
  obtain ⟨p, l, e, s, m, args, below, meth, c, D, cT, h0, Q, mc, ms⟩ := X
  exact lv_dup2_11 hX.1 hX.2.1 hd ha hb kk
theorem z_pop2 {va : Value} (hd : decode M.2.1 pc = .ok (.pop2, 1)) (ha : va.category = 2) (kk : Z X M k n h (pc + 1) lv (st)) : Z X M k n h pc lv (va :: st) := by
  intro hX H locs ls hR hl
  have kk := kk hX H locs ls hR hl
  obtain ⟨p, l, e, s, m, args, below, meth, c, D, cT, h0, Q, mc, ms⟩ := X
  exact lv_pop2_2 hX.1 hX.2.1 hd ha kk
theorem z_idiv {x y : Int32} {α : Type} {va : Option α} {r : α} (hd : decode M.2.1 pc = .ok (.idiv, 1)) (E : (if y = 0 then none else va) = some r) (kk : va = some r → Z X M k n h (pc + 1) lv (.int (x / y) :: st)) : Z X M k n h pc lv (.int y :: .int x :: st) := by
  intro hX H locs ls hR hl
  have hy : ¬ y = 0 := fun q => by rw [if_pos q] at E; cases E
  have kk := kk (by rw [if_neg hy] at E; exact E) hX H locs ls hR hl
  obtain ⟨p, l, e, s, m, args, below, meth, c, D, cT, h0, Q, mc, ms⟩ := X
  exact lv_idiv hX.1 hX.2.1 hd hy kk
theorem z_irem {x y : Int32} {α : Type} {va : Option α} {r : α} (hd : decode M.2.1 pc = .ok (.irem, 1)) (E : (if y = 0 then none else va) = some r) (kk : va = some r → Z X M k n h (pc + 1) lv (.int (x - x / y * y) :: st)) : Z X M k n h pc lv (.int y :: .int x :: st) := by
  intro hX H locs ls hR hl
  have hy : ¬ y = 0 := fun q => by rw [if_pos q] at E; cases E
  have kk := kk (by rw [if_neg hy] at E; exact E) hX H locs ls hR hl
  obtain ⟨p, l, e, s, m, args, below, meth, c, D, cT, h0, Q, mc, ms⟩ := X
  exact lv_irem hX.1 hX.2.1 hd hy kk
theorem z_if_eq {x y : Int32} {off : Int} {tgt : Nat} {α : Type} {va vb : Option α} {r : α} (hd : decode M.2.1 pc = .ok (.ifCond .eq off, 3)) (ht : (pc : Int) + off = (tgt : Int)) (E : (if x = 0 then va else vb) = some r) (kt : va = some r → Z X M k n h tgt lv st) (kf : vb = some r → Z X M k n h (pc + 3) lv st) : Z X M k n h pc lv (.int x :: st) := by
  intro hX H locs ls hR hl
  have e1 := fun q => kt (by rw [if_pos q] at E; exact E) hX H locs ls hR hl
  have e2 := fun q => kf (by rw [if_neg q] at E; exact E) hX H locs ls hR hl
  obtain ⟨p, l, e, s, m, args, below, meth, c, D, cT, h0, Q, mc, ms⟩ := X
  exact lv_if_eq hX.1 hX.2.1 hd ht e1 e2
theorem z_if_ne {x y : Int32} {off : Int} {tgt : Nat} {α : Type} {va vb : Option α} {r : α} (hd : decode M.2.1 pc = .ok (.ifCond .ne off, 3)) (ht : (pc : Int) + off = (tgt : Int)) (E : (if x = 0 then va else vb) = some r) (kt : vb = some r → Z X M k n h tgt lv st) (kf : va = some r → Z X M k n h (pc + 3) lv st) : Z X M k n h pc lv (.int x :: st) := by
  intro hX H locs ls hR hl
  have e1 := fun q => kt (by rw [if_neg q] at E; exact E) hX H locs ls hR hl
  have e2 := fun q => kf (by rw [if_pos q] at E; exact E) hX H locs ls hR hl
  obtain ⟨p, l, e, s, m, args, below, meth, c, D, cT, h0, Q, mc, ms⟩ := X
  exact lv_if_ne hX.1 hX.2.1 hd ht e1 e2
theorem z_if_lt {x y : Int32} {off : Int} {tgt : Nat} {α : Type} {va vb : Option α} {r : α} (hd : decode M.2.1 pc = .ok (.ifCond .lt off, 3)) (ht : (pc : Int) + off = (tgt : Int)) (E : (if x < 0 then va else vb) = some r) (kt : va = some r → Z X M k n h tgt lv st) (kf : vb = some r → Z X M k n h (pc + 3) lv st) : Z X M k n h pc lv (.int x :: st) := by
  intro hX H locs ls hR hl
  have e1 := fun q => kt (by rw [if_pos q] at E; exact E) hX H locs ls hR hl
  have e2 := fun q => kf (by rw [if_neg q] at E; exact E) hX H locs ls hR hl
  obtain ⟨p, l, e, s, m, args, below, meth, c, D, cT, h0, Q, mc, ms⟩ := X
  exact lv_if_lt hX.1 hX.2.1 hd ht e1 e2
theorem z_if_ge {x y : Int32} {off : Int} {tgt : Nat} {α : Type} {va vb : Option α} {r : α} (hd : decode M.2.1 pc = .ok (.ifCond .ge off, 3)) (ht : (pc : Int) + off = (tgt : Int)) (E : (if 0 ≤ x then va else vb) = some r) (kt : va = some r → Z X M k n h tgt lv st) (kf : vb = some r → Z X M k n h (pc + 3) lv st) : Z X M k n h pc lv (.int x :: st) := by
  intro hX H locs ls hR hl
  have e1 := fun q => kt (by rw [if_pos q] at E; exact E) hX H locs ls hR hl
  have e2 := fun q => kf (by rw [if_neg q] at E; exact E) hX H locs ls hR hl
  obtain ⟨p, l, e, s, m, args, below, meth, c, D, cT, h0, Q, mc, ms⟩ := X
  exact lv_if_ge hX.1 hX.2.1 hd ht e1 e2
theorem z_if_gt {x y : Int32} {off : Int} {tgt : Nat} {α : Type} {va vb : Option α} {r : α} (hd : decode M.2.1 pc = .ok (.ifCond .gt off, 3)) (ht : (pc : Int) + off = (tgt : Int)) (E : (if 0 < x then va else vb) = some r) (kt : va = some r → Z X M k n h tgt lv st) (kf : vb = some r → Z X M k n h (pc + 3) lv st) : Z X M k n h pc lv (.int x :: st) := by
  intro hX H locs ls hR hl
  have e1 := fun q => kt (by rw [if_pos q] at E; exact E) hX H locs ls hR hl
  have e2 := fun q => kf (by rw [if_neg q] at E; exact E) hX H locs ls hR hl
  obtain ⟨p, l, e, s, m, args, below, meth, c, D, cT, h0, Q, mc, ms⟩ := X
  exact lv_if_gt hX.1 hX.2.1 hd ht e1 e2
theorem z_if_le {x y : Int32} {off : Int} {tgt : Nat} {α : Type} {va vb : Option α} {r : α} (hd : decode M.2.1 pc = .ok (.ifCond .le off, 3)) (ht : (pc : Int) + off = (tgt : Int)) (E : (if x ≤ 0 then va else vb) = some r) (kt : va = some r → Z X M k n h tgt lv st) (kf : vb = some r → Z X M k n h (pc + 3) lv st) : Z X M k n h pc lv (.int x :: st) := by
  intro hX H locs ls hR hl
  have e1 := fun q => kt (by rw [if_pos q] at E; exact E) hX H locs ls hR hl
  have e2 := fun q => kf (by rw [if_neg q] at E; exact E) hX H locs ls hR hl
  obtain ⟨p, l, e, s, m, args, below, meth, c, D, cT, h0, Q, mc, ms⟩ := X
  exact lv_if_le hX.1 hX.2.1 hd ht e1 e2
theorem z_ic_eq {x y : Int32} {off : Int} {tgt : Nat} {α : Type} {va vb : Option α} {r : α} (hd : decode M.2.1 pc = .ok (.if_icmp .eq off, 3)) (ht : (pc : Int) + off = (tgt : Int)) (E : (if x = y then va else vb) = some r) (kt : va = some r → Z X M k n h tgt lv st) (kf : vb = some r → Z X M k n h (pc + 3) lv st) : Z X M k n h pc lv (.int y :: .int x :: st) := by
  intro hX H locs ls hR hl
  have e1 := fun q => kt (by rw [if_pos q] at E; exact E) hX H locs ls hR hl
  have e2 := fun q => kf (by rw [if_neg q] at E; exact E) hX H locs ls hR hl
  obtain ⟨p, l, e, s, m, args, below, meth, c, D, cT, h0, Q, mc, ms⟩ := X
  exact lv_icmp_eq hX.1 hX.2.1 hd ht e1 e2
theorem z_ic_ne {x y : Int32} {off : Int} {tgt : Nat} {α : Type} {va vb : Option α} {r : α} (hd : decode M.2.1 pc = .ok (.if_icmp .ne off, 3)) (ht : (pc : Int) + off = (tgt : Int)) (E : (if x = y then va else vb) = some r) (kt : vb = some r → Z X M k n h tgt lv st) (kf : va = some r → Z X M k n h (pc + 3) lv st) : Z X M k n h pc lv (.int y :: .int x :: st) := by
  intro hX H locs ls hR hl
  have e1 := fun q => kt (by rw [if_neg q] at E; exact E) hX H locs ls hR hl
  have e2 := fun q => kf (by rw [if_pos q] at E; exact E) hX H locs ls hR hl
  obtain ⟨p, l, e, s, m, args, below, meth, c, D, cT, h0, Q, mc, ms⟩ := X
  exact lv_icmp_ne hX.1 hX.2.1 hd ht e1 e2
theorem z_ic_lt {x y : Int32} {off : Int} {tgt : Nat} {α : Type} {va vb : Option α} {r : α} (hd : decode M.2.1 pc = .ok (.if_icmp .lt off, 3)) (ht : (pc : Int) + off = (tgt : Int)) (E : (if x < y then va else vb) = some r) (kt : va = some r → Z X M k n h tgt lv st) (kf : vb = some r → Z X M k n h (pc + 3) lv st) : Z X M k n h pc lv (.int y :: .int x :: st) := by
  intro hX H locs ls hR hl
  have e1 := fun q => kt (by rw [if_pos q] at E; exact E) hX H locs ls hR hl
  have e2 := fun q => kf (by rw [if_neg q] at E; exact E) hX H locs ls hR hl
  obtain ⟨p, l, e, s, m, args, below, meth, c, D, cT, h0, Q, mc, ms⟩ := X
  exact lv_icmp_lt hX.1 hX.2.1 hd ht e1 e2
theorem z_ic_ge {x y : Int32} {off : Int} {tgt : Nat} {α : Type} {va vb : Option α} {r : α} (hd : decode M.2.1 pc = .ok (.if_icmp .ge off, 3)) (ht : (pc : Int) + off = (tgt : Int)) (E : (if y ≤ x then va else vb) = some r) (kt : va = some r → Z X M k n h tgt lv st) (kf : vb = some r → Z X M k n h (pc + 3) lv st) : Z X M k n h pc lv (.int y :: .int x :: st) := by
  intro hX H locs ls hR hl
  have e1 := fun q => kt (by rw [if_pos q] at E; exact E) hX H locs ls hR hl
  have e2 := fun q => kf (by rw [if_neg q] at E; exact E) hX H locs ls hR hl
  obtain ⟨p, l, e, s, m, args, below, meth, c, D, cT, h0, Q, mc, ms⟩ := X
  exact lv_icmp_ge hX.1 hX.2.1 hd ht e1 e2
theorem z_ic_gt {x y : Int32} {off : Int} {tgt : Nat} {α : Type} {va vb : Option α} {r : α} (hd : decode M.2.1 pc = .ok (.if_icmp .gt off, 3)) (ht : (pc : Int) + off = (tgt : Int)) (E : (if y < x then va else vb) = some r) (kt : va = some r → Z X M k n h tgt lv st) (kf : vb = some r → Z X M k n h (pc + 3) lv st) : Z X M k n h pc lv (.int y :: .int x :: st) := by
  intro hX H locs ls hR hl
  have e1 := fun q => kt (by rw [if_pos q] at E; exact E) hX H locs ls hR hl
  have e2 := fun q => kf (by rw [if_neg q] at E; exact E) hX H locs ls hR hl
  obtain ⟨p, l, e, s, m, args, below, meth, c, D, cT, h0, Q, mc, ms⟩ := X
  exact lv_icmp_gt hX.1 hX.2.1 hd ht e1 e2
theorem z_ic_le {x y : Int32} {off : Int} {tgt : Nat} {α : Type} {va vb : Option α} {r : α} (hd : decode M.2.1 pc = .ok (.if_icmp .le off, 3)) (ht : (pc : Int) + off = (tgt : Int)) (E : (if x ≤ y then va else vb) = some r) (kt : va = some r → Z X M k n h tgt lv st) (kf : vb = some r → Z X M k n h (pc + 3) lv st) : Z X M k n h pc lv (.int y :: .int x :: st) := by
  intro hX H locs ls hR hl
  have e1 := fun q => kt (by rw [if_pos q] at E; exact E) hX H locs ls hR hl
  have e2 := fun q => kf (by rw [if_neg q] at E; exact E) hX H locs ls hR hl
  obtain ⟨p, l, e, s, m, args, below, meth, c, D, cT, h0, Q, mc, ms⟩ := X
  exact lv_icmp_le hX.1 hX.2.1 hd ht e1 e2
theorem z_goto {off : Int} {tgt : Nat} (hd : decode M.2.1 pc = .ok (.goto off, 3)) (ht : (pc : Int) + off = (tgt : Int)) (kk : Z X M k n h tgt lv st) : Z X M k n h pc lv st := by
  intro hX H locs ls hR hl
  have kk := kk hX H locs ls hR hl
  obtain ⟨p, l, e, s, m, args, below, meth, c, D, cT, h0, Q, mc, ms⟩ := X
  exact lv_goto hX.1 hX.2.1 hd ht kk
theorem z_lv (ks : List Nat) (hv : lv_pick lv ks = lv2) (kk : Z X M k n h pc lv2 st) : Z X M k n h pc lv st := by
  intro hX H locs ls hR hl
  exact kk hX H locs ls hR (lv_sub hl ks hv)
theorem z_ldc2 {i : Nat} {v : Int64} (hd : decode M.2.1 pc = .ok (.ldc2_w i, 3)) (hw : Cond.constantLong M.1 i v ∈ zTg) (kk : Z X M k n h (pc + 3) lv (.long v :: st)) : Z X M k n h pc lv st := by
  intro hX H locs ls hR hl
  have kk := kk hX H locs ls hR hl
  obtain ⟨p, l, e, s, m, args, below, meth, c, D, cT, h0, Q, mc, ms⟩ := X
  exact lv_ldc2 hX.1 hX.2.1 hX.2.2.2.1 (hX.2.2.2.2.1 _ hw) hd kk
/-- a field of an object -/
def oG (h : pH) (a ci j : Nat) : Option Value := if a ∈ h.1 then (match h.2 a with
  | .inr o => if o.1 = ci then o.2[j]? else none
  | .inl _ => none) else none
theorem oG_some {h : pH} {a ci j : Nat} {v : Value} (e : oG h a ci j = some v) : a ∈ h.1 ∧ ∃ fs : List Value, h.2 a = .inr (ci, fs) ∧ fs[j]? = some v := by
  unfold oG at e
  split at e
  · rename_i ha
    refine ⟨ha, ?_⟩
    split at e
    · rename_i o ho
      split at e
      · rename_i hc
        obtain ⟨c, fs⟩ := o
        subst hc
        exact ⟨fs, ho, e⟩
      · cases e
    · cases e
  · cases e
def gI (h : pH) (a ci j : Nat) : Option Int32 := match oG h a ci j with
  | some (.int v) => some v
  | _ => none
def gJ (h : pH) (a ci j : Nat) : Option Int64 := match oG h a ci j with
  | some (.long v) => some v
  | _ => none
def gR (h : pH) (a ci j : Nat) : Option Nat := match oG h a ci j with
  | some (.ref v) => some v
  | _ => none
theorem gI_some {h : pH} {a ci j : Nat} {v : Int32} (e : gI h a ci j = some v) : oG h a ci j = some (.int v) := by
  unfold gI at e
  split at e
  · rename_i w hw; rw [hw]; cases e; rfl
  · cases e
theorem gJ_some {h : pH} {a ci j : Nat} {v : Int64} (e : gJ h a ci j = some v) : oG h a ci j = some (.long v) := by
  unfold gJ at e
  split at e
  · rename_i w hw; rw [hw]; cases e; rfl
  · cases e
theorem gR_some {h : pH} {a ci j : Nat} {v : Nat} (e : gR h a ci j = some v) : oG h a ci j = some (.ref v) := by
  unfold gR at e
  split at e
  · rename_i w hw; rw [hw]; cases e; rfl
  · cases e
/-- a field of an object is written -/
def oP (h : pH) (a ci j : Nat) (v : Value) : Option pH := if a ∈ h.1 then (match h.2 a with
  | .inr o => if o.1 = ci ∧ j < o.2.length then some (h.1, va_up h.2 a (.inr (ci, o.2.set j v))) else none
  | .inl _ => none) else none
theorem oP_some {h h1 : pH} {a ci j : Nat} {v : Value} (e : oP h a ci j v = some h1) : a ∈ h.1 ∧ ∃ fs : List Value, h.2 a = .inr (ci, fs) ∧ j < fs.length ∧ h1 = (h.1, va_up h.2 a (.inr (ci, fs.set j v))) := by
  unfold oP at e
  split at e
  · rename_i ha
    refine ⟨ha, ?_⟩
    split at e
    · rename_i o ho
      split at e
      · rename_i hc
        obtain ⟨c, fs⟩ := o
        obtain ⟨hc, hj⟩ := hc
        cases hc
        cases e
        exact ⟨fs, ho, hj, rfl⟩
      · cases e
    · cases e
  · cases e
/-- what lies in an array -/
def oA (h : pH) (a kd : Nat) : Option (Nat × ((Nat → Int32) ⊕ (Nat → Int64) ⊕ (Nat → UInt32) ⊕ (Nat → UInt64) ⊕ (Nat → Option Nat))) := if a ∈ h.1 then (match h.2 a with
  | .inl o => if o.1 = kd then some o.2 else none
  | .inr _ => none) else none
theorem oA_some {h : pH} {a kd : Nat} {x : vp_A} (e : oA h a kd = some x) : a ∈ h.1 ∧ h.2 a = .inl (kd, x) := by
  unfold oA at e
  split at e
  · rename_i ha
    refine ⟨ha, ?_⟩
    split at e
    · rename_i o ho
      split at e
      · rename_i hc
        obtain ⟨c, y⟩ := o
        cases hc
        cases e
        exact ho
      · cases e
    · cases e
  · cases e
def vin (i : Int32) (n : Nat) : Bool := decide (0 ≤ i.toInt) && decide (i.toInt < n)
theorem vin_in {i : Int32} {n : Nat} (h : vin i n = true) : vp_in i n := by
  unfold vin at h
  rw [Bool.and_eq_true, decide_eq_true_eq, decide_eq_true_eq] at h
  exact vp_in_iff.mpr h
def aI (h : pH) (a : Nat) (i : Int32) : Option Int32 := match oA h a 0 with
  | some (n, .inl f) => if vin i n then some (f i.toNatClampNeg) else none
  | _ => none
def aJ (h : pH) (a : Nat) (i : Int32) : Option Int64 := match oA h a 1 with
  | some (n, .inr (.inl f)) => if vin i n then some (f i.toNatClampNeg) else none
  | _ => none
/-- a reference out of an array of kind kd (2: of Graph; 3: of long[]) -/
def aR (h : pH) (kd a : Nat) (i : Int32) : Option Nat := match oA h a kd with
  | some (n, .inr (.inr (.inr (.inr f)))) => if vin i n then f i.toNatClampNeg else none
  | _ => none
def sI (h : pH) (a : Nat) (i x : Int32) : Option pH := match oA h a 0 with
  | some (n, .inl f) => if vin i n then some (h.1, va_up h.2 a (.inl (0, n, .inl (upd f i.toNatClampNeg x)))) else none
  | _ => none
def sJ (h : pH) (a : Nat) (i : Int32) (x : Int64) : Option pH := match oA h a 1 with
  | some (n, .inr (.inl f)) => if vin i n then some (h.1, va_up h.2 a (.inl (1, n, .inr (.inl (vp_updL f i.toNatClampNeg x))))) else none
  | _ => none
/-- an array's length, of kind kd -/
def aL (h : pH) (kd a : Nat) : Option Int32 := match oA h a kd with
  | some x => some (Int32.ofNat x.1)
  | _ => none
theorem aI_some {h : pH} {a : Nat} {i v : Int32} (e : aI h a i = some v) : ∃ (n : Nat) (f : Nat → Int32), oA h a 0 = some (n, .inl f) ∧ vp_in i n ∧ f i.toNatClampNeg = v := by
  unfold aI at e
  split at e
  · rename_i n f hf
    split at e
    · rename_i hv
      cases e
      exact ⟨n, f, hf, vin_in hv, rfl⟩
    · cases e
  · cases e
theorem aJ_some {h : pH} {a : Nat} {i : Int32} {v : Int64} (e : aJ h a i = some v) : ∃ (n : Nat) (f : Nat → Int64), oA h a 1 = some (n, .inr (.inl f)) ∧ vp_in i n ∧ f i.toNatClampNeg = v := by
  unfold aJ at e
  split at e
  · rename_i n f hf
    split at e
    · rename_i hv
      cases e
      exact ⟨n, f, hf, vin_in hv, rfl⟩
    · cases e
  · cases e
theorem aR_some {h : pH} {kd a : Nat} {i : Int32} {v : Nat} (e : aR h kd a i = some v) : ∃ (n : Nat) (f : Nat → Option Nat), oA h a kd = some (n, .inr (.inr (.inr (.inr f)))) ∧ vp_in i n ∧ f i.toNatClampNeg = some v := by
  unfold aR at e
  split at e
  · rename_i n f hf
    split at e
    · rename_i hv
      exact ⟨n, f, hf, vin_in hv, e⟩
    · cases e
  · cases e
theorem sI_some {h h1 : pH} {a : Nat} {i x : Int32} (e : sI h a i x = some h1) : ∃ (n : Nat) (f : Nat → Int32), oA h a 0 = some (n, .inl f) ∧ vp_in i n ∧ h1 = (h.1, va_up h.2 a (.inl (0, n, .inl (upd f i.toNatClampNeg x)))) := by
  unfold sI at e
  split at e
  · rename_i n f hf
    split at e
    · rename_i hv
      cases e
      exact ⟨n, f, hf, vin_in hv, rfl⟩
    · cases e
  · cases e
theorem sJ_some {h h1 : pH} {a : Nat} {i : Int32} {x : Int64} (e : sJ h a i x = some h1) : ∃ (n : Nat) (f : Nat → Int64), oA h a 1 = some (n, .inr (.inl f)) ∧ vp_in i n ∧ h1 = (h.1, va_up h.2 a (.inl (1, n, .inr (.inl (vp_updL f i.toNatClampNeg x))))) := by
  unfold sJ at e
  split at e
  · rename_i n f hf
    split at e
    · rename_i hv
      cases e
      exact ⟨n, f, hf, vin_in hv, rfl⟩
    · cases e
  · cases e
theorem bd_some {α β : Type} {o : Option α} {f : α → Option β} {r : β} (e : o.bind f = some r) : ∃ v, o = some v ∧ f v = some r := Option.bind_eq_some_iff.mp e
/-- a place in the world -/
theorem zw_at {cT : Nat → ClassId} {h : pH} {a : Nat} (ha : a ∈ h.1) : ∃ q : Nat, (zw cT h)[q]? = some (a, zcv cT (h.2 a)) := by
  obtain ⟨q, hq⟩ := va_pl_get (X := []) (f := fun a => zcv cT (h.2 a)) ha
  exact ⟨q, by rw [List.nil_append] at hq; exact hq⟩
theorem zw_set {cT : Nat → ClassId} {h : pH} {a q : Nat} {A : Nat → Prop} {x : pE} (hD : va_D A (zw cT h)) (ha : a ∈ h.1) (hq : (zw cT h)[q]? = some (a, zcv cT (h.2 a))) : (zw cT h).set q (a, zcv cT x) = zw cT (h.1, va_up h.2 a x) := by
  have e := va_pl_set (X := []) (A := A) (L := h.1) (f := fun a => zcv cT (h.2 a)) (a := a) (k := q) (e := zcv cT x) hD ha hq
  rw [List.nil_append, List.nil_append] at e
  refine e.trans (va_pl_congr fun b => ?_)
  by_cases hb : b = a
  · subst hb; simp [va_up]
  · simp [va_up, hb]

theorem z_getI {ci j i a : Nat} {C : String} {T : u_T} {N : Nat} {α : Type} {f : Int32 → Option α} {r : α} (hc : zcl[ci]? = some (C, T, N)) (hj : j < N) (hw : Cond.fieldLink M.1 i (T j).1 (T j).2.1 (T j).2.2.1 ∈ zTg) (hd : decode M.2.1 pc = .ok (.getfield i, 3)) (E : (gI h a ci j).bind f = some r) (kk : ∀ v, gI h a ci j = some v → f v = some r → Z X M k n h (pc + 3) lv (.int v :: st)) : Z X M k n h pc lv (.ref a :: st) := by
  intro hX H locs ls hR hl
  obtain ⟨v, e1, e2⟩ := bd_some E
  have kk := kk v e1 e2 hX H locs ls hR hl
  obtain ⟨ha, fs, hf, hv⟩ := oG_some (gI_some e1)
  obtain ⟨p, l, e, s, m, args, below, meth, c, D, cT, h0, Q, mc, ms⟩ := X
  obtain ⟨q, hq⟩ := zw_at (cT := cT) ha
  rw [hf] at hq
  exact va_get hX.1 hX.2.1 hX.2.2.2.2.1 (zcl_in hc) hX.2.2.2.1 hX.2.2.2.2.2.1 hR.1 q hq hc j hj (hX.2.2.2.2.1 _ hw) (fun _ h9 => h9) hv hd kk
theorem z_getJ {ci j i a : Nat} {C : String} {T : u_T} {N : Nat} {α : Type} {f : Int64 → Option α} {r : α} (hc : zcl[ci]? = some (C, T, N)) (hj : j < N) (hw : Cond.fieldLink M.1 i (T j).1 (T j).2.1 (T j).2.2.1 ∈ zTg) (hd : decode M.2.1 pc = .ok (.getfield i, 3)) (E : (gJ h a ci j).bind f = some r) (kk : ∀ v, gJ h a ci j = some v → f v = some r → Z X M k n h (pc + 3) lv (.long v :: st)) : Z X M k n h pc lv (.ref a :: st) := by
  intro hX H locs ls hR hl
  obtain ⟨v, e1, e2⟩ := bd_some E
  have kk := kk v e1 e2 hX H locs ls hR hl
  obtain ⟨ha, fs, hf, hv⟩ := oG_some (gJ_some e1)
  obtain ⟨p, l, e, s, m, args, below, meth, c, D, cT, h0, Q, mc, ms⟩ := X
  obtain ⟨q, hq⟩ := zw_at (cT := cT) ha
  rw [hf] at hq
  exact va_get hX.1 hX.2.1 hX.2.2.2.2.1 (zcl_in hc) hX.2.2.2.1 hX.2.2.2.2.2.1 hR.1 q hq hc j hj (hX.2.2.2.2.1 _ hw) (fun _ h9 => h9) hv hd kk
theorem z_getR {ci j i a : Nat} {C : String} {T : u_T} {N : Nat} {α : Type} {f : Nat → Option α} {r : α} (hc : zcl[ci]? = some (C, T, N)) (hj : j < N) (hw : Cond.fieldLink M.1 i (T j).1 (T j).2.1 (T j).2.2.1 ∈ zTg) (hd : decode M.2.1 pc = .ok (.getfield i, 3)) (E : (gR h a ci j).bind f = some r) (kk : ∀ v, gR h a ci j = some v → f v = some r → Z X M k n h (pc + 3) lv (.ref v :: st)) : Z X M k n h pc lv (.ref a :: st) := by
  intro hX H locs ls hR hl
  obtain ⟨v, e1, e2⟩ := bd_some E
  have kk := kk v e1 e2 hX H locs ls hR hl
  obtain ⟨ha, fs, hf, hv⟩ := oG_some (gR_some e1)
  obtain ⟨p, l, e, s, m, args, below, meth, c, D, cT, h0, Q, mc, ms⟩ := X
  obtain ⟨q, hq⟩ := zw_at (cT := cT) ha
  rw [hf] at hq
  exact va_get hX.1 hX.2.1 hX.2.2.2.2.1 (zcl_in hc) hX.2.2.2.1 hX.2.2.2.2.2.1 hR.1 q hq hc j hj (hX.2.2.2.2.1 _ hw) (fun _ h9 => h9) hv hd kk
theorem z_putI {ci j i a : Nat} {C : String} {T : u_T} {N : Nat} {x : Int32} {α : Type} {f : pH → Option α} {r : α} (hc : zcl[ci]? = some (C, T, N)) (hj : j < N) (hw : Cond.fieldLink M.1 i (T j).1 (T j).2.1 (T j).2.2.1 ∈ zTg) (hfin : (T j).2.2.2 = false) (ht : (T j).2.2.1 = "I") (hd : decode M.2.1 pc = .ok (.putfield i, 3)) (E : (oP h a ci j (.int x)).bind f = some r) (kk : ∀ h1, oP h a ci j (.int x) = some h1 → f h1 = some r → Z X M k n h1 (pc + 3) lv st) : Z X M k n h pc lv (.int x :: .ref a :: st) := by
  intro hX H locs ls hR hl
  obtain ⟨h1, e1, e2⟩ := bd_some E
  have kk := kk h1 e1 e2 hX
  obtain ⟨ha, fs, hf, hv, rfl⟩ := oP_some e1
  obtain ⟨ty0, hty, hnm⟩ := zcl_ty hc
  obtain ⟨p, l, e, s, m, args, below, meth, c, D, cT, h0, Q, mc, ms⟩ := X
  obtain ⟨q, hq⟩ := zw_at (cT := cT) ha
  have hq2 := hq
  rw [hf] at hq
  refine va_put hX.1 hX.2.1 hX.2.2.2.2.1 (zcl_in hc) ty0 hty hnm hX.2.2.2.1 hX.2.2.2.2.2.1 hR.1 hR.2.1 hR.2.2 q hq hc j hj (hX.2.2.2.2.1 _ hw) (fun _ h9 => h9) hfin (ty := .int) (by rw [ht]; decide +kernel) rfl rfl hv hd (fun H1 locs1 hP hD hS => ?_)
  have e := zw_set (x := .inr (ci, fs.set j (.int x))) hR.2.1 ha hq2
  exact kk H1 locs1 ls ⟨e ▸ hP, e ▸ hD, hS⟩ hl
/-- a boolean is 0 or 1 -/
def isZ (x : Int32) : Bool := decide (x = 0) || decide (x = 1)
theorem isZ_cases {x : Int32} (h : isZ x = true) : x = 0 ∨ x = 1 := by
  unfold isZ at h
  rw [Bool.or_eq_true, decide_eq_true_eq, decide_eq_true_eq] at h
  exact h
def oZ (h : pH) (a ci j : Nat) (x : Int32) : Option pH := if isZ x then oP h a ci j (.int x) else none
theorem z_putZ {ci j i a : Nat} {C : String} {T : u_T} {N : Nat} {x : Int32} {α : Type} {f : pH → Option α} {r : α} (hc : zcl[ci]? = some (C, T, N)) (hj : j < N) (hw : Cond.fieldLink M.1 i (T j).1 (T j).2.1 (T j).2.2.1 ∈ zTg) (hfin : (T j).2.2.2 = false) (ht : (T j).2.2.1 = "Z") (hd : decode M.2.1 pc = .ok (.putfield i, 3)) (E : (oZ h a ci j x).bind f = some r) (kk : ∀ h1, oZ h a ci j x = some h1 → f h1 = some r → Z X M k n h1 (pc + 3) lv st) : Z X M k n h pc lv (.int x :: .ref a :: st) := by
  intro hX H locs ls hR hl
  obtain ⟨h1, e1, e2⟩ := bd_some E
  have kk := kk h1 e1 e2 hX
  have hz : isZ x = true := by
    unfold oZ at e1
    split at e1
    · assumption
    · cases e1
  have hn : narrow .boolean (.int x) = .int x ∧ fits .boolean (.int x) = true := by
    rcases isZ_cases hz with rfl | rfl <;> exact ⟨rfl, rfl⟩
  unfold oZ at e1
  rw [if_pos hz] at e1
  obtain ⟨ha, fs, hf, hv, rfl⟩ := oP_some e1
  obtain ⟨ty0, hty, hnm⟩ := zcl_ty hc
  obtain ⟨p, l, e, s, m, args, below, meth, c, D, cT, h0, Q, mc, ms⟩ := X
  obtain ⟨q, hq⟩ := zw_at (cT := cT) ha
  have hq2 := hq
  rw [hf] at hq
  refine va_put hX.1 hX.2.1 hX.2.2.2.2.1 (zcl_in hc) ty0 hty hnm hX.2.2.2.1 hX.2.2.2.2.2.1 hR.1 hR.2.1 hR.2.2 q hq hc j hj (hX.2.2.2.2.1 _ hw) (fun _ h9 => h9) hfin (ty := .boolean) (by rw [ht]; decide +kernel) hn.1 hn.2 hv hd (fun H1 locs1 hP hD hS => ?_)
  have e := zw_set (x := .inr (ci, fs.set j (.int x))) hR.2.1 ha hq2
  exact kk H1 locs1 ls ⟨e ▸ hP, e ▸ hD, hS⟩ hl
theorem z_iaload {a : Nat} {i : Int32} {α : Type} {f : Int32 → Option α} {r : α} (hd : decode M.2.1 pc = .ok (.iaload, 1)) (E : (aI h a i).bind f = some r) (kk : ∀ v, aI h a i = some v → f v = some r → Z X M k n h (pc + 1) lv (.int v :: st)) : Z X M k n h pc lv (.int i :: .ref a :: st) := by
  intro hX H locs ls hR hl
  obtain ⟨v, e1, e2⟩ := bd_some E
  have kk := kk v e1 e2 hX H locs ls hR hl
  obtain ⟨N, g, hg, hi, rfl⟩ := aI_some e1
  obtain ⟨ha, hf⟩ := oA_some hg
  obtain ⟨p, l, e, s, m, args, below, meth, c, D, cT, h0, Q, mc, ms⟩ := X
  obtain ⟨q, hq⟩ := zw_at (cT := cT) ha
  rw [hf] at hq
  exact va_iald hX.1 hX.2.1 hX.2.2.2.2.2.1 hR.1 q 0 hq rfl hi hd kk
theorem z_iastore {a : Nat} {i : Int32} {x : Int32} {α : Type} {f : pH → Option α} {r : α} (hd : decode M.2.1 pc = .ok (.iastore, 1)) (E : (sI h a i x).bind f = some r) (kk : ∀ h1, sI h a i x = some h1 → f h1 = some r → Z X M k n h1 (pc + 1) lv st) : Z X M k n h pc lv (.int x :: .int i :: .ref a :: st) := by
  intro hX H locs ls hR hl
  obtain ⟨h1, e1, e2⟩ := bd_some E
  have kk := kk h1 e1 e2 hX
  obtain ⟨N, g, hg, hi, rfl⟩ := sI_some e1
  obtain ⟨ha, hf⟩ := oA_some hg
  obtain ⟨p, l, e, s, m, args, below, meth, c, D, cT, h0, Q, mc, ms⟩ := X
  obtain ⟨q, hq⟩ := zw_at (cT := cT) ha
  have hq2 := hq
  rw [hf] at hq
  refine va_iast hX.1 hX.2.1 hX.2.2.2.2.2.1 hR.1 hR.2.1 hR.2.2 q 0 hq rfl hi hd (fun H1 locs1 hP hD hS => ?_)
  have e := zw_set (x := .inl (0, N, .inl (upd g i.toNatClampNeg x))) hR.2.1 ha hq2
  exact kk H1 locs1 ls ⟨e ▸ hP, e ▸ hD, hS⟩ hl
theorem z_laload {a : Nat} {i : Int32} {α : Type} {f : Int64 → Option α} {r : α} (hd : decode M.2.1 pc = .ok (.laload, 1)) (E : (aJ h a i).bind f = some r) (kk : ∀ v, aJ h a i = some v → f v = some r → Z X M k n h (pc + 1) lv (.long v :: st)) : Z X M k n h pc lv (.int i :: .ref a :: st) := by
  intro hX H locs ls hR hl
  obtain ⟨v, e1, e2⟩ := bd_some E
  have kk := kk v e1 e2 hX H locs ls hR hl
  obtain ⟨N, g, hg, hi, rfl⟩ := aJ_some e1
  obtain ⟨ha, hf⟩ := oA_some hg
  obtain ⟨p, l, e, s, m, args, below, meth, c, D, cT, h0, Q, mc, ms⟩ := X
  obtain ⟨q, hq⟩ := zw_at (cT := cT) ha
  rw [hf] at hq
  exact va_lald hX.1 hX.2.1 hX.2.2.2.2.2.1 hR.1 q 1 hq rfl hi hd kk
theorem z_lastore {a : Nat} {i : Int32} {x : Int64} {α : Type} {f : pH → Option α} {r : α} (hd : decode M.2.1 pc = .ok (.lastore, 1)) (E : (sJ h a i x).bind f = some r) (kk : ∀ h1, sJ h a i x = some h1 → f h1 = some r → Z X M k n h1 (pc + 1) lv st) : Z X M k n h pc lv (.long x :: .int i :: .ref a :: st) := by
  intro hX H locs ls hR hl
  obtain ⟨h1, e1, e2⟩ := bd_some E
  have kk := kk h1 e1 e2 hX
  obtain ⟨N, g, hg, hi, rfl⟩ := sJ_some e1
  obtain ⟨ha, hf⟩ := oA_some hg
  obtain ⟨p, l, e, s, m, args, below, meth, c, D, cT, h0, Q, mc, ms⟩ := X
  obtain ⟨q, hq⟩ := zw_at (cT := cT) ha
  have hq2 := hq
  rw [hf] at hq
  refine va_last hX.1 hX.2.1 hX.2.2.2.2.2.1 hR.1 hR.2.1 hR.2.2 q 1 hq rfl hi hd (fun H1 locs1 hP hD hS => ?_)
  have e := zw_set (x := .inl (1, N, .inr (.inl (vp_updL g i.toNatClampNeg x)))) hR.2.1 ha hq2
  exact kk H1 locs1 ls ⟨e ▸ hP, e ▸ hD, hS⟩ hl
theorem z_alen {a : Nat} (kd : Nat) {ty : FieldType} {α : Type} {f : Int32 → Option α} {r : α} (ht : ∀ cT, (zty cT)[kd]? = some (cT kd, ty)) (hd : decode M.2.1 pc = .ok (.arraylength, 1)) (E : (aL h kd a).bind f = some r) (kk : ∀ v, aL h kd a = some v → f v = some r → Z X M k n h (pc + 1) lv (.int v :: st)) : Z X M k n h pc lv (.ref a :: st) := by
  intro hX H locs ls hR hl
  obtain ⟨v, e1, e2⟩ := bd_some E
  have kk := kk v e1 e2 hX H locs ls hR hl
  unfold aL at e1
  split at e1
  · rename_i x hx
    cases e1
    obtain ⟨ha, hf⟩ := oA_some hx
    obtain ⟨p, l, e, s, m, args, below, meth, c, D, cT, h0, Q, mc, ms⟩ := X
    obtain ⟨q, hq⟩ := zw_at (cT := cT) ha
    rw [hf] at hq
    exact va_alen hX.1 hX.2.1 hX.2.2.2.2.2.1 hR.1 q kd hq (ht cT) rfl hd kk
  · cases e1
theorem z_aaload {a : Nat} (kd : Nat) {ty : FieldType} {i : Int32} {α : Type} {f : Nat → Option α} {r : α} (ht : ∀ cT, (zty cT)[kd]? = some (cT kd, ty)) (hty : ty.isReference = true) (hd : decode M.2.1 pc = .ok (.aaload, 1)) (E : (aR h kd a i).bind f = some r) (kk : ∀ v, aR h kd a i = some v → f v = some r → Z X M k n h (pc + 1) lv (.ref v :: st)) : Z X M k n h pc lv (.int i :: .ref a :: st) := by
  intro hX H locs ls hR hl
  obtain ⟨v, e1, e2⟩ := bd_some E
  have kk := kk v e1 e2 hX H locs ls hR hl
  obtain ⟨N, g, hg, hi, hv⟩ := aR_some e1
  obtain ⟨ha, hf⟩ := oA_some hg
  obtain ⟨p, l, e, s, m, args, below, meth, c, D, cT, h0, Q, mc, ms⟩ := X
  obtain ⟨q, hq⟩ := zw_at (cT := cT) ha
  rw [hf] at hq
  have hlt : i.toNatClampNeg < N := Nat.not_le.mp fun q => hi (Or.inr q)
  have hP := hR.1
  have hK := hX.2.2.2.2.2.1
  exact W.aald (v := .ref v) (ty := ty) hX.1 hX.2.1 (hP q _ hq) ((hK.2 kd _ (ht cT)).1 N (fun j => va_rf (g j))) hty (fun q => by cases q) (by show ¬ (i < 0 ∨ (arrV _ _ _).slots.size ≤ _); rw [arrV_size]; exact hi) (by show (arrV _ _ _).slots[_]? = _; rw [arrV_read _ _ hlt, hv]; rfl) rfl rfl hd kk
theorem z_ireturn {v : Int32} {r : pR} (hQ : zQ X r) (hr : M.2.2.2.1 = some .int) (hkn : zkn X k n) (hd : decode M.2.1 pc = .ok (.ireturn, 1)) (E : some ((some (.int v), h) : pR) = some r) : Z X M k n h pc lv [.int v] := by
  intro hX H locs ls hR hl
  obtain ⟨p, l, e, s, m, args, below, meth, c, D, cT, h0, Q, mc, ms⟩ := X
  have e : r = (some (.int v), h) := (Option.some.inj E).symm
  subst e
  have hQ : Q = _ := hQ
  subst hQ
  refine W.widen hkn.1 hkn.2 ?_
  exact W.iret hX.1 hX.2.1 (hX.2.2.2.2.2.2.2.1.trans hr) (fun t ht hW => ⟨⟨rfl, by rw [ht]; exact hR.1, hR.2.1⟩, hR.2.2.F ht⟩) hR.2.2.2.2 hd (hlocks := hX.2.2.2.2.2.2.2.2)
theorem z_zreturn {v : Int32} {r : pR} (hQ : zQ X r) (hr : M.2.2.2.1 = some .boolean) (hkn : zkn X k n) (hd : decode M.2.1 pc = .ok (.ireturn, 1)) (E : (if isZ v = true then some ((some (.int v), h) : pR) else none) = some r) : Z X M k n h pc lv [.int v] := by
  intro hX H locs ls hR hl
  have hz : isZ v = true := by
    split at E
    · assumption
    · cases E
  rw [if_pos hz] at E
  obtain ⟨p, l, e, s, m, args, below, meth, c, D, cT, h0, Q, mc, ms⟩ := X
  have e : r = (some (.int v), h) := (Option.some.inj E).symm
  subst e
  have hQ : Q = _ := hQ
  subst hQ
  refine W.widen hkn.1 hkn.2 ?_
  exact W.zret hX.1 hX.2.1 (hX.2.2.2.2.2.2.2.1.trans hr) (by rcases isZ_cases hz with rfl | rfl <;> rfl) (fun t ht hW => ⟨⟨rfl, by rw [ht]; exact hR.1, hR.2.1⟩, hR.2.2.F ht⟩) hR.2.2.2.2 hd (hlocks := hX.2.2.2.2.2.2.2.2)
theorem z_lreturn {v : Int64} {r : pR} (hQ : zQ X r) (hr : M.2.2.2.1 = some .long) (hkn : zkn X k n) (hd : decode M.2.1 pc = .ok (.lreturn, 1)) (E : some ((some (.long v), h) : pR) = some r) : Z X M k n h pc lv [.long v] := by
  intro hX H locs ls hR hl
  obtain ⟨p, l, e, s, m, args, below, meth, c, D, cT, h0, Q, mc, ms⟩ := X
  have e : r = (some (.long v), h) := (Option.some.inj E).symm
  subst e
  have hQ : Q = _ := hQ
  subst hQ
  refine W.widen hkn.1 hkn.2 ?_
  exact W.lret hX.1 hX.2.1 (hX.2.2.2.2.2.2.2.1.trans hr) (fun t ht hW => ⟨⟨rfl, by rw [ht]; exact hR.1, hR.2.1⟩, hR.2.2.F ht⟩) hR.2.2.2.2 hd (hlocks := hX.2.2.2.2.2.2.2.2)
theorem z_return {r : pR} (hQ : zQ X r) (hr : M.2.2.2.1 = none) (hkn : zkn X k n) (hd : decode M.2.1 pc = .ok (.return_, 1)) (E : some ((none, h) : pR) = some r) : Z X M k n h pc lv [] := by
  intro hX H locs ls hR hl
  obtain ⟨p, l, e, s, m, args, below, meth, c, D, cT, h0, Q, mc, ms⟩ := X
  have e : r = (none, h) := (Option.some.inj E).symm
  subst e
  have hQ : Q = _ := hQ
  subst hQ
  refine W.widen hkn.1 hkn.2 ?_
  exact W.vret hX.1 hX.2.1 (hX.2.2.2.2.2.2.2.1.trans hr) (fun t ht hW => ⟨⟨rfl, by rw [ht]; exact hR.1, hR.2.1⟩, hR.2.2.F ht⟩) hR.2.2.2.2 hd (hlocks := hX.2.2.2.2.2.2.2.2)
/-- calls, as the pure texts have them -/
def oC (h : pH) (b ci : Nat) : Bool := decide (b ∈ h.1) && (match h.2 b with
  | .inr o => decide (o.1 = ci)
  | .inl _ => false)
theorem oC_some {h : pH} {b ci : Nat} (e : oC h b ci = true) : b ∈ h.1 ∧ ∃ fs : List Value, h.2 b = .inr (ci, fs) := by
  unfold oC at e
  rw [Bool.and_eq_true, decide_eq_true_eq] at e
  refine ⟨e.1, ?_⟩
  have e2 := e.2
  split at e2
  · rename_i o ho
    obtain ⟨c, fs⟩ := o
    cases of_decide_eq_true e2
    exact ⟨fs, ho⟩
  · cases e2
def cI {α : Type} (g : Bool) (o : Option pR) (f : Int32 → pH → Option α) : Option α := if g = true then (match o with
  | some (some (.int v), h1) => f v h1
  | _ => none) else none
def cJ {α : Type} (g : Bool) (o : Option pR) (f : Int64 → pH → Option α) : Option α := if g = true then (match o with
  | some (some (.long v), h1) => f v h1
  | _ => none) else none
def cV {α : Type} (g : Bool) (o : Option pR) (f : pH → Option α) : Option α := if g = true then (match o with
  | some (none, h1) => f h1
  | _ => none) else none
theorem cI_some {α : Type} {g : Bool} {o : Option pR} {f : Int32 → pH → Option α} {r : α} (e : cI g o f = some r) : g = true ∧ ∃ (v : Int32) (h1 : pH), o = some (some (.int v), h1) ∧ f v h1 = some r := by
  unfold cI at e
  split at e
  · rename_i hg
    split at e
    · exact ⟨hg, _, _, rfl, e⟩
    · cases e
  · cases e
theorem cJ_some {α : Type} {g : Bool} {o : Option pR} {f : Int64 → pH → Option α} {r : α} (e : cJ g o f = some r) : g = true ∧ ∃ (v : Int64) (h1 : pH), o = some (some (.long v), h1) ∧ f v h1 = some r := by
  unfold cJ at e
  split at e
  · rename_i hg
    split at e
    · exact ⟨hg, _, _, rfl, e⟩
    · cases e
  · cases e
theorem cV_some {α : Type} {g : Bool} {o : Option pR} {f : pH → Option α} {r : α} (e : cV g o f = some r) : g = true ∧ ∃ (h1 : pH), o = some (none, h1) ∧ f h1 = some r := by
  unfold cV at e
  split at e
  · rename_i hg
    split at e
    · exact ⟨hg, _, rfl, e⟩
    · cases e
  · cases e
theorem zPre_blind {D : va_G} {cT : Nat → ClassId} {sz : Nat} {av : List Value} : FrameBlind (va_Pc av (zPre D cT sz h)) := by
  intro a U g mk q
  exact ⟨q.1, q.2.1, q.2.2.1, va_K.moved (u := U) (U := U.calling g mk a) (Vm.Alike.refl U.vm) q.2.2.2.1, zNw.same (u := U) (U := U.calling g mk a) rfl q.2.2.2.2.1, q.2.2.2.2.2⟩
/-- what a call that has run leaves -/
theorem z_back {rc : pR} {rest av : List Value} (hkn : zkn X k n) (hk0 : zOK X M → ∀ (H : Heap) (locs : List Loc) (ls : Array Slot), zR X h H locs → lv_has ls M.2.2.1 lv → match X with
    | (p, l, e, s, m, args, below, meth, c, D, cT, _, _, mc, ms) => va_Run p l e (zRoom M.2.2.2.2 mc ms) s m args below meth c H locs k n 0 0 (F0 m pc ls st) rest (zPost D cT H.size h rc av.toArray) (va_A (zw cT h) H.size))
    (kk : Z X M k n rc.2 (pc + 3) lv (rc.1.toList ++ rest)) : Z X M k n h pc lv st := by
  intro hX H locs ls hR hl
  have run := hk0 hX H locs ls hR hl
  have kk := kk hX
  obtain ⟨p, l, e, s, m, args, below, meth, c, D, cT, h0, Q, mc, ms⟩ := X
  have hS := hR.2.2
  have hF : ∀ q, va_A (zw cT h) H.size q → va_A (zw cT h0) s.heap.size q := by
    intro q hq
    rcases hq with ⟨j, x, hx⟩ | hq
    · exact hR.2.1.2 j _ hx
    · exact Or.inr (Nat.le_trans hS.1 hq)
  intro T hT XX
  obtain ⟨v, st0, t, T', L, e0, X', hL, e1, e2, ⟨⟨ho, hP1, hD1⟩, hz, hkp⟩, go⟩ := run T hT XX
  cases ho
  rw [e0] at hz hkp
  obtain ⟨t2, a1, b1⟩ := kk T'.heap (locs ++ L) ls ⟨by rw [e1]; exact hP1, hD1.weaken (fun _ _ _ hq => hF _ hq), Nat.le_trans hS.1 (by rw [e1]; exact hz), fun q h1 h2 => by rw [e1, hkp q (Nat.lt_of_lt_of_le h1 hS.1) (fun z => h2 (hF q z))]; exact hS.2.1 q h1 h2, fun q hq => by
      rcases List.mem_append.mp hq with hq | hq
      · exact hS.2.2 q hq
      · exact hF _ (hL q hq)⟩ hl T' rfl X'
  exact ⟨t2, go t2 a1, b1⟩
theorem zRoom_ok {d d2 ml mc ms : Nat} (h1 : d2 < d) (h2 : ml ≤ 31) : (zRoom d2 0 0).frames + 1 ≤ (zRoom d mc ms).frames ∧ 8 + (ml + 11) + (zRoom d2 0 0).locals ≤ (zRoom d mc ms).locals := by
  refine ⟨h1, ?_⟩
  show 8 + (ml + 11) + 50 * d2 ≤ 50 * d
  omega
theorem z_invS {i : Nat} {y : MethodName} {Mc : zM} {av rest : List Value} {rc : pR} (hw : Cond.methodLink M.1 i y ∈ zTg ∧ Cond.static y ∈ zTg ∧ Cond.initialized y.cls ∈ zTg) (hcode : Cond.code y Mc.2.1 Mc.2.2.1 Mc.2.2.2.1 ∈ zTg) (hy : y.cls ≠ "java/lang/invoke/MethodHandle" ∧ y.cls ≠ "java/lang/invoke/VarHandle" ∧ (parseMethodDescriptor y.desc).map (fun d => d.parameters.length) = some av.length) (hdp : Mc.2.2.2.2 < M.2.2.2.2) (hml : Mc.2.2.1 ≤ 31) (hkn : zkn X k n) (hst : st = av.reverse ++ rest) (hrest : (rest.map fun v => v.category).sum ≤ 8) (hd : decode M.2.1 pc = .ok (.invokestatic i, 3)) (hM : zMet (zl X) y Mc 0 0 av h rc) (kk : Z X M k n rc.2 (pc + 3) lv (rc.1.toList ++ rest)) : Z X M k n h pc lv st := by
  refine z_back (av := av) hkn (fun hX H locs ls hR hl => ?_) kk
  obtain ⟨p, l, e, s, m, args, below, meth, c, D, cT, h0, Q, mc, ms⟩ := X
  have hG : GoodIn zTg (va_wsS M.1 i y (.code y Mc.2.1 Mc.2.2.1 Mc.2.2.2.1 :: zTg)) := by
    intro w h9
    rcases List.mem_append.mp h9 with h9 | h9
    · rcases List.mem_cons.mp h9 with rfl | h9
      · exact zTg_good hw.1
      · rcases List.mem_cons.mp h9 with rfl | h9
        · exact zTg_good hw.2.1
        · rcases List.mem_cons.mp h9 with rfl | h9
          · exact zTg_good hw.2.2
          · cases h9
    · rcases List.mem_cons.mp h9 with rfl | h9
      · exact zTg_good hcode
      · exact zTg_good h9
  exact va_runS ⟨hX.1, hX.2.1, hX.2.2.1, hX.2.2.2.1, hX.2.2.2.2.1⟩ (hM D cT H.size) (va_cwS av.length hX.2.2.2.2.1 hG rfl rfl rfl hy (zRoom_ok hdp hml)) ⟨zPre_blind, fun U hU hW => ⟨rfl, by rw [hU], by rw [hU]; exact hR.1, va_K.moved hW.alike hX.2.2.2.2.2.1, zNw.warm hW hX.2.2.2.2.2.2.1, hR.2.1.weaken (fun _ _ _ _ => trivial)⟩⟩ rfl rfl hl.1 hst (lv_room hrest) hd ⟨hkn.1, hkn.2⟩
theorem z_invSN {i : Nat} {y : MethodName} {host : String} {Mc : zM} {av rest : List Value} {rc : pR} (hw : Cond.methodLinkNest M.1 i y host ∈ zN ∧ Cond.static y ∈ zTg ∧ Cond.initialized y.cls ∈ zTg) (hcode : Cond.code y Mc.2.1 Mc.2.2.1 Mc.2.2.2.1 ∈ zTg) (hy : y.cls ≠ "java/lang/invoke/MethodHandle" ∧ y.cls ≠ "java/lang/invoke/VarHandle" ∧ (parseMethodDescriptor y.desc).map (fun d => d.parameters.length) = some av.length) (hdp : Mc.2.2.2.2 < M.2.2.2.2) (hml : Mc.2.2.1 ≤ 31) (hkn : zkn X k n) (hst : st = av.reverse ++ rest) (hrest : (rest.map fun v => v.category).sum ≤ 8) (hd : decode M.2.1 pc = .ok (.invokestatic i, 3)) (hM : zMet (zl X) y Mc 0 0 av h rc) (kk : Z X M k n rc.2 (pc + 3) lv (rc.1.toList ++ rest)) : Z X M k n h pc lv st := by
  refine z_back (av := av) hkn (fun hX H locs ls hR hl => ?_) kk
  obtain ⟨p, l, e, s, m, args, below, meth, c, D, cT, h0, Q, mc, ms⟩ := X
  have hG : GoodIn zTg (.code y Mc.2.1 Mc.2.2.1 Mc.2.2.2.1 :: zTg) := by
    intro w h9
    rcases List.mem_cons.mp h9 with rfl | h9
    · exact zTg_good hcode
    · exact zTg_good h9
  exact va_runSN ⟨hX.1, hX.2.1, hX.2.2.1, hX.2.2.2.1, hX.2.2.2.2.1⟩ (hM D cT H.size) ⟨va_cnB av.length hX.2.2.2.2.1 hG rfl rfl rfl (hX.2.2.2.2.2.2.1 _ hw.1) (hX.2.2.2.2.1 _ hw.2.2) hy (zRoom_ok hdp hml), hX.2.2.2.2.1 _ hw.2.1, trivial⟩ ⟨zPre_blind, fun U hU hW => ⟨rfl, by rw [hU], by rw [hU]; exact hR.1, va_K.moved hW.alike hX.2.2.2.2.2.1, zNw.warm hW hX.2.2.2.2.2.2.1, hR.2.1.weaken (fun _ _ _ _ => trivial)⟩⟩ rfl rfl hl.1 hst (lv_room hrest) hd ⟨hkn.1, hkn.2⟩
theorem z_invV {i ci b : Nat} {y : MethodName} {C : String} {T : u_T} {N : Nat} {Mc : zM} {av rest : List Value} {rc : pR} (hc : zcl[ci]? = some (C, T, N)) (hyC : y.cls = C) (hw : Cond.methodLink M.1 i y ∈ zTg ∧ Cond.instanceMethod y ∈ zTg ∧ Cond.selects C y y ∈ zTg ∧ Cond.initialized C ∈ zTg) (hcode : Cond.code y Mc.2.1 Mc.2.2.1 Mc.2.2.2.1 ∈ zTg) (hy : y.cls ≠ "java/lang/invoke/MethodHandle" ∧ y.cls ≠ "java/lang/invoke/VarHandle" ∧ (parseMethodDescriptor y.desc).map (fun d => d.parameters.length) = some av.length) (hdp : Mc.2.2.2.2 < M.2.2.2.2) (hml : Mc.2.2.1 ≤ 31) (hkn : zkn X k n) (hst : st = av.reverse ++ .ref b :: rest) (hrest : (rest.map fun v => v.category).sum ≤ 8) (hd : decode M.2.1 pc = .ok (.invokevirtual i, 3)) (hb : oC h b ci = true) (hM : zMet (zl X) y Mc 0 0 (.ref b :: av) h rc) (kk : Z X M k n rc.2 (pc + 3) lv (rc.1.toList ++ rest)) : Z X M k n h pc lv st := by
  refine z_back (av := .ref b :: av) hkn (fun hX H locs ls hR hl => ?_) kk
  obtain ⟨hbL, fs, hf⟩ := oC_some hb
  obtain ⟨p, l, e, s, m, args, below, meth, c, D, cT, h0, Q, mc, ms⟩ := X
  obtain ⟨q, hq⟩ := zw_at (cT := cT) hbL
  rw [hf] at hq
  have hG : GoodIn zTg (wsV M.1 i C y (.code y Mc.2.1 Mc.2.2.1 Mc.2.2.2.1 :: zTg)) := by
    intro w h9
    rcases List.mem_append.mp h9 with h9 | h9
    · rcases List.mem_cons.mp h9 with rfl | h9
      · exact zTg_good hw.1
      · rcases List.mem_cons.mp h9 with rfl | h9
        · exact zTg_good hw.2.1
        · rcases List.mem_cons.mp h9 with rfl | h9
          · exact zTg_good hw.2.2.1
          · rcases List.mem_cons.mp h9 with rfl | h9
            · exact zTg_good hw.2.2.2
            · cases h9
    · rcases List.mem_cons.mp h9 with rfl | h9
      · exact zTg_good hcode
      · exact zTg_good h9
  exact va_runV ⟨hX.1, hX.2.1, hX.2.2.1, hX.2.2.2.1, hX.2.2.2.2.1⟩ (hM D cT H.size) (cwV av.length hX.2.2.2.2.1 hG rfl rfl rfl ⟨hyC, hy⟩ (zRoom_ok hdp hml)) ⟨zPre_blind, va_recv hX.2.2.2.2.2.1 hR.1 hc hq, fun U hU hW => ⟨rfl, by rw [hU], by rw [hU]; exact hR.1, va_K.moved hW.alike hX.2.2.2.2.2.1, zNw.warm hW hX.2.2.2.2.2.2.1, hR.2.1.weaken (fun _ _ _ _ => trivial)⟩⟩ rfl rfl hl.1 hst (lv_room hrest) hd ⟨hkn.1, hkn.2⟩
/-- A CONTRACT OUT OF A WALK -/
theorem zMet_of {l : Launch} {y : MethodName} {M : zM} {mc ms : Nat} {av : List Value} {h : pH} {r : pR} (hy : plainName y.cls = true) (hyM : y.cls = M.1) (hlen : (lg_sl av).length ≤ M.2.2.1)
    (body : ∀ (p : Program) (e : Env) (s : State) (m : MethodId) (args : Array Value) (below : List Frame) (meth : Method) (c : Code) (D : va_G) (cT : Nat → ClassId), Z (p, l, e, s, m, args, below, meth, c, D, cT, h, MQ below (zPost D cT s.heap.size h r) args s mc ms (va_A (zw cT h) s.heap.size), mc, ms) M 0 0 h 0 (lv_args 0 av) []) : zMet l y M mc ms av h r := by
  intro D cT sz
  refine Met.ofW (cc := M.2.1) (maxL := M.2.2.1) (ret := M.2.2.2.1) hy rfl ?_
  intro p e s m args below meth c s₁ B hml hv
  obtain ⟨rfl, hsz, hP, hK, hN, hD0⟩ := hv
  have hts := atoms_spec (ws := .code y M.2.1 M.2.2.1 M.2.2.2.1 :: zTg) B.pre
  have hown : s.vm.findClass M.1 = some m.cls := by rw [← hyM]; exact findClass_of_methodNamed B.named
  subst hsz
  have hl := lv_entry av (n := M.2.2.1) hlen
  rw [lg_entry_eq]
  generalize (lg_sl av ++ List.replicate (M.2.2.1 - (lg_sl av).length) Slot.unset).toArray = ls at hl ⊢
  exact body p e s m av.toArray below meth c D cT ⟨B.exec, B.bytes, hml, hown, fun w h9 => hts w (List.mem_cons_of_mem _ h9), hK, hN, B.returns, B.notSynchronized⟩ s.heap [] ls ⟨hP, hD0.self, va_S.rf⟩ hl
theorem zkn_le {k2 n2 : Nat} (hkn : zkn X k n) (h1 : k2 ≤ k) (h2 : n2 ≤ n) : zkn X k2 n2 := by
  obtain ⟨p, l, e, s, m, args, below, meth, c, D, cT, h0, Q, mc, ms⟩ := X
  exact ⟨Nat.le_trans h1 hkn.1, Nat.le_trans h2 hkn.2⟩
end ZS
