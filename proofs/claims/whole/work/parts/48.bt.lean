/-! PURE: bits of 64: bitCount -/
theorem wb_tb (n : Nat) : (lN n).toBitVec = BitVec.ofNat 64 n := rfl
theorem wb_inj {a b : Int64} (h : a.toBitVec = b.toBitVec) : a = b := Int64.toBitVec_inj.mp h
theorem wb_tn {n : Nat} (h : n < 2 ^ 64) : (lN n).toBitVec.toNat = n := by rw [wb_tb, BitVec.toNat_ofNat, Nat.mod_eq_of_lt h]
theorem wb_of (x : Int64) : ∃ n, n < 2 ^ 64 ∧ x = lN n := ⟨x.toBitVec.toNat, x.toBitVec.isLt, wb_inj (by rw [wb_tb]; simp)⟩
theorem wb_c : ∀ k, k < 64 → ((nI k).toInt64 &&& 63) = lN k := by decide +kernel
theorem wb_cu : ∀ k, k < 64 → ((nI k).toInt64.toUInt64 &&& Int64.toUInt64 63) = UInt64.ofNat k := by decide +kernel
theorem wb_sm : ∀ k, k < 64 → (BitVec.ofNat 64 k).smod 64 = BitVec.ofNat 64 k := by decide +kernel
theorem wb_shr {n k : Nat} (hn : n < 2 ^ 64) (hk : k < 64) : ((lN n).toUInt64 >>> ((nI k).toInt64.toUInt64 &&& Int64.toUInt64 63)).toInt64 = lN (n / 2 ^ k) := by
  rw [wb_cu k hk]
  apply wb_inj
  apply BitVec.eq_of_toNat_eq
  show ((lN n).toUInt64 >>> UInt64.ofNat k).toNat = (BitVec.ofNat 64 _).toNat
  have h1 : (UInt64.ofNat k).toNat = k := by
    show (BitVec.ofNat 64 k).toNat = k
    rw [BitVec.toNat_ofNat, Nat.mod_eq_of_lt (by omega)]
  have h2 : (lN n).toUInt64.toNat = n := wb_tn hn
  rw [UInt64.toNat_shiftRight, h1, h2, Nat.mod_eq_of_lt hk, Nat.shiftRight_eq_div_pow, BitVec.toNat_ofNat, Nat.mod_eq_of_lt (Nat.lt_of_le_of_lt (Nat.div_le_self _ _) hn)]
theorem wb_shl (n : Nat) {k : Nat} (hk : k < 64) : lN n <<< ((nI k).toInt64 &&& 63) = lN (n * 2 ^ k) := by
  rw [wb_c k hk]
  apply wb_inj
  rw [Int64.toBitVec_shiftLeft, wb_tb, wb_tb, wb_tb, wb_sm k hk]
  apply BitVec.eq_of_toNat_eq
  rw [BitVec.shiftLeft_eq', BitVec.toNat_shiftLeft, BitVec.toNat_ofNat, BitVec.toNat_ofNat, BitVec.toNat_ofNat, Nat.mod_eq_of_lt (show k < 2 ^ 64 by omega), Nat.shiftLeft_eq, Nat.mul_mod, Nat.mod_mod, ← Nat.mul_mod]
theorem wb_and {a b : Nat} (ha : a < 2 ^ 64) (hb : b < 2 ^ 64) : lN a &&& lN b = lN (a &&& b) := by
  apply wb_inj
  rw [Int64.toBitVec_and, wb_tb, wb_tb, wb_tb]
  apply BitVec.eq_of_toNat_eq
  rw [BitVec.toNat_and, BitVec.toNat_ofNat, BitVec.toNat_ofNat, BitVec.toNat_ofNat, Nat.mod_eq_of_lt ha, Nat.mod_eq_of_lt hb, Nat.mod_eq_of_lt (Nat.and_lt_two_pow _ hb)]
theorem wb_or {a b : Nat} (ha : a < 2 ^ 64) (hb : b < 2 ^ 64) : lN a ||| lN b = lN (a ||| b) := by
  apply wb_inj
  rw [Int64.toBitVec_or, wb_tb, wb_tb, wb_tb]
  apply BitVec.eq_of_toNat_eq
  rw [BitVec.toNat_or, BitVec.toNat_ofNat, BitVec.toNat_ofNat, BitVec.toNat_ofNat, Nat.mod_eq_of_lt ha, Nat.mod_eq_of_lt hb, Nat.mod_eq_of_lt (Nat.or_lt_two_pow ha hb)]
/-- bytes, the least first -/
def bv8 : List Nat → Nat
  | [] => 0
  | b :: r => b + 256 * bv8 r
def mk8 (m : Nat) : Nat → Nat
  | 0 => 0
  | k + 1 => m + 256 * mk8 m k
theorem b8_and {a b c d : Nat} (ha : a < 256) (hc : c < 256) : (a + 256 * b) &&& (c + 256 * d) = (a &&& c) + 256 * (b &&& d) := by
  have e : ∀ x y : Nat, x + 256 * y = 2 ^ 8 * y + x := fun x y => by omega
  have hac : a &&& c < 2 ^ 8 := Nat.and_lt_two_pow _ (by omega)
  apply Nat.eq_of_testBit_eq
  intro i
  rw [Nat.testBit_and, e, e, e, Nat.testBit_two_pow_mul_add _ (by omega), Nat.testBit_two_pow_mul_add _ (by omega), Nat.testBit_two_pow_mul_add _ hac]
  split
  · rw [Nat.testBit_and]
  · rw [Nat.testBit_and]
/-- a byte's steps -/
def e8 (b : Nat) : Nat := b / 2 &&& 85
def u8 (b : Nat) : Nat := b - e8 b
def t8 (u : Nat) : Nat := (u &&& 51) + (u / 4 &&& 51)
def f8 (t : Nat) : Nat := t + t / 16 &&& 15
theorem e8_le : ∀ b, b < 256 → e8 b ≤ b ∧ ∀ c, c < 2 → (b / 2 + 128 * c) &&& 85 = e8 b := by decide +kernel
theorem u8_ok : ∀ b, b < 256 → u8 b < 256 := by decide +kernel
theorem t8_ok : ∀ u, u < 256 → t8 u ≤ 102 ∧ ∀ c, c < 4 → (u / 4 + 64 * c) &&& 51 = (u / 4 &&& 51) := by decide +kernel
theorem tu8_ok : ∀ b, b < 256 → t8 (u8 b) % 16 ≤ 4 ∧ t8 (u8 b) ≤ 68 ∧ ∀ c, c < 5 → (t8 (u8 b) + t8 (u8 b) / 16 + 16 * c) &&& 15 = f8 (t8 (u8 b)) := by decide +kernel
def pc8 (b : Nat) : Nat := (List.range 8).countP (fun i => b.testBit i)
theorem f8_ok : ∀ b, b < 256 → f8 (t8 (u8 b)) = pc8 b ∧ pc8 b ≤ 8 := by decide +kernel
theorem s8_1 : ∀ L : List Nat, (∀ b ∈ L, b < 256) → (bv8 L / 2 &&& mk8 85 L.length) = bv8 (L.map e8) := by
  intro L
  induction L with
  | nil => intro _; rfl
  | cons b r ih =>
    intro h
    have hb := h b List.mem_cons_self
    have h2 := (e8_le b hb).2 (bv8 r % 2) (by omega)
    show ((b + 256 * bv8 r) / 2 &&& (85 + 256 * mk8 85 r.length)) = e8 b + 256 * bv8 (r.map e8)
    rw [show (b + 256 * bv8 r) / 2 = (b / 2 + 128 * (bv8 r % 2)) + 256 * (bv8 r / 2) by omega, b8_and (by omega) (by omega), h2, ih (fun c hc => h c (List.mem_cons_of_mem _ hc))]
theorem s8_1b : ∀ L : List Nat, (∀ b ∈ L, b < 256) → bv8 L = bv8 (L.map e8) + bv8 (L.map u8) := by
  intro L
  induction L with
  | nil => intro _; rfl
  | cons b r ih =>
    intro h
    have h2 := (e8_le b (h b List.mem_cons_self)).1
    have h3 := ih (fun c hc => h c (List.mem_cons_of_mem _ hc))
    show b + 256 * bv8 r = (e8 b + 256 * bv8 (r.map e8)) + ((b - e8 b) + 256 * bv8 (r.map u8))
    omega
theorem s8_2 : ∀ L : List Nat, (∀ b ∈ L, b < 256) → (bv8 L &&& mk8 51 L.length) + (bv8 L / 4 &&& mk8 51 L.length) = bv8 (L.map t8) := by
  intro L
  induction L with
  | nil => intro _; rfl
  | cons b r ih =>
    intro h
    have hb := h b List.mem_cons_self
    have h2 := (t8_ok b hb).2 (bv8 r % 4) (by omega)
    have h3 := ih (fun c hc => h c (List.mem_cons_of_mem _ hc))
    show ((b + 256 * bv8 r) &&& (51 + 256 * mk8 51 r.length)) + ((b + 256 * bv8 r) / 4 &&& (51 + 256 * mk8 51 r.length)) = ((b &&& 51) + (b / 4 &&& 51)) + 256 * bv8 (r.map t8)
    rw [show (b + 256 * bv8 r) / 4 = (b / 4 + 64 * (bv8 r % 4)) + 256 * (bv8 r / 4) by omega, b8_and hb (by omega), b8_and (by omega) (by omega), h2]
    omega
theorem s8_3 : ∀ L : List Nat, (∀ b ∈ L, b < 256) → (bv8 ((L.map u8).map t8) + bv8 ((L.map u8).map t8) / 16 &&& mk8 15 L.length) = bv8 (L.map (fun b => f8 (t8 (u8 b)))) := by
  intro L
  induction L with
  | nil => intro _; rfl
  | cons b r ih =>
    intro h
    have hb := h b List.mem_cons_self
    obtain ⟨t1, t2, t3⟩ := tu8_ok b hb
    have h3 := ih (fun c hc => h c (List.mem_cons_of_mem _ hc))
    have hr : bv8 ((r.map u8).map t8) % 16 < 5 := by
      cases r with
      | nil => decide
      | cons c q =>
        have h4 := (tu8_ok c (h c (List.mem_cons_of_mem _ List.mem_cons_self))).1
        show (t8 (u8 c) + 256 * bv8 ((q.map u8).map t8)) % 16 < 5
        omega
    have h5 := t3 (bv8 ((r.map u8).map t8) % 16) hr
    show ((t8 (u8 b) + 256 * bv8 ((r.map u8).map t8)) + (t8 (u8 b) + 256 * bv8 ((r.map u8).map t8)) / 16 &&& (15 + 256 * mk8 15 r.length)) = f8 (t8 (u8 b)) + 256 * bv8 (r.map (fun b => f8 (t8 (u8 b))))
    rw [show (t8 (u8 b) + 256 * bv8 ((r.map u8).map t8)) + (t8 (u8 b) + 256 * bv8 ((r.map u8).map t8)) / 16 = (t8 (u8 b) + t8 (u8 b) / 16 + 16 * (bv8 ((r.map u8).map t8) % 16)) + 256 * (bv8 ((r.map u8).map t8) + bv8 ((r.map u8).map t8) / 16) by omega, b8_and (by omega) (by omega), h5, h3]
def sm8 : List Nat → Nat
  | [] => 0
  | b :: r => pc8 b + sm8 r
theorem s8_c : ∀ L : List Nat, (∀ b ∈ L, b < 256) → (List.range (8 * L.length)).countP (fun i => (bv8 L).testBit i) = sm8 L := by
  intro L
  induction L with
  | nil => intro _; rfl
  | cons b r ih =>
    intro h
    have hb := h b List.mem_cons_self
    have h3 := ih (fun c hc => h c (List.mem_cons_of_mem _ hc))
    have e : ∀ i, (bv8 (b :: r)).testBit i = if i < 8 then b.testBit i else (bv8 r).testBit (i - 8) := fun i => by
      show (b + 256 * bv8 r).testBit i = _
      rw [show b + 256 * bv8 r = 2 ^ 8 * bv8 r + b by omega, Nat.testBit_two_pow_mul_add _ (by omega)]
    rw [show 8 * (b :: r).length = 8 + 8 * r.length by rw [List.length_cons]; omega, List.range_add, List.countP_append, List.countP_map]
    show _ = pc8 b + sm8 r
    congr 1
    · apply List.countP_congr
      intro i hi
      rw [e, if_pos (List.mem_range.mp hi)]
    · rw [← h3]
      apply List.countP_congr
      intro i _
      show (bv8 (b :: r)).testBit (8 + i) = true ↔ _
      rw [e, if_neg (by omega), show 8 + i - 8 = i by omega]
/-- a bit of a long; how many there are -/
def tb (x : Int64) (t : Nat) : Bool := x.toBitVec.getLsbD t
def pcn (x : Int64) : Nat := (List.range 64).countP (tb x)
theorem tb_lN {n t : Nat} (hn : n < 2 ^ 64) : tb (lN n) t = n.testBit t := by
  show (lN n).toBitVec.toNat.testBit t = _
  rw [wb_tn hn]
def bc1 (x : Int64) : Int64 := x - ((x.toUInt64 >>> (((1 : Int32)).toInt64.toUInt64 &&& Int64.toUInt64 63)).toInt64 &&& (6148914691236517205 : Int64))
def bc2 (x : Int64) : Int64 := (x &&& (3689348814741910323 : Int64)) + ((x.toUInt64 >>> (((2 : Int32)).toInt64.toUInt64 &&& Int64.toUInt64 63)).toInt64 &&& (3689348814741910323 : Int64))
def bc3 (x : Int64) : Int64 := (x + (x.toUInt64 >>> (((4 : Int32)).toInt64.toUInt64 &&& Int64.toUInt64 63)).toInt64) &&& (1085102592571150095 : Int64)
def bc4 (x : Int64) : Int64 := x + (x.toUInt64 >>> (((8 : Int32)).toInt64.toUInt64 &&& Int64.toUInt64 63)).toInt64
def bc5 (x : Int64) : Int64 := x + (x.toUInt64 >>> (((16 : Int32)).toInt64.toUInt64 &&& Int64.toUInt64 63)).toInt64
def bc6 (x : Int64) : Int64 := x + (x.toUInt64 >>> (((32 : Int32)).toInt64.toUInt64 &&& Int64.toUInt64 63)).toInt64
theorem bc_eq (G : Nat) (x : Int64) (h : pH) : f_Lo_bitCount G x h = some (some (.int ((bc6 (bc5 (bc4 (bc3 (bc2 (bc1 x)))))).toInt32 &&& 127)), h) := rfl
theorem dv8 {a X m : Nat} (h : a < m) : (a + m * X) / m = X := by
  rw [Nat.add_mul_div_left _ _ (by omega), Nat.div_eq_of_lt h, Nat.zero_add]
theorem dm8 {a X m : Nat} (h : a < m) : (a + m * X) % m = a := by
  rw [Nat.add_mul_mod_self_left, Nat.mod_eq_of_lt h]
theorem bc_ar {c0 c1 c2 c3 c4 c5 c6 c7 w w2 w3 w4 : Nat} (q0 : c0 ≤ 8) (q1 : c1 ≤ 8) (q2 : c2 ≤ 8) (q3 : c3 ≤ 8) (q4 : c4 ≤ 8) (q5 : c5 ≤ 8) (q6 : c6 ≤ 8) (q7 : c7 ≤ 8)
    (hw : w = c0 + 256 * (c1 + 256 * (c2 + 256 * (c3 + 256 * (c4 + 256 * (c5 + 256 * (c6 + 256 * (c7 + 256 * 0)))))))) (hw2 : w2 = w + w / 256) (hw3 : w3 = w2 + w2 / 65536) (hw4 : w4 = w3 + w3 / 4294967296) :
    w < 2 ^ 62 ∧ w2 < 2 ^ 62 ∧ w3 < 2 ^ 62 ∧ w4 % 2 ^ 32 % 2 ^ 7 = c0 + (c1 + (c2 + (c3 + (c4 + (c5 + (c6 + (c7 + 0))))))) := by
  have d1 : w / 256 = c1 + 256 * (c2 + 256 * (c3 + 256 * (c4 + 256 * (c5 + 256 * (c6 + 256 * c7))))) := by
    clear hw2 hw3 hw4
    rw [hw, Nat.mul_zero, Nat.add_zero]
    clear hw
    exact dv8 (by omega)
  have e2 : w2 = (c0 + c1 + 256 * (c1 + c2)) + 65536 * (c2 + c3 + 256 * (c3 + c4 + 256 * (c4 + c5 + 256 * (c5 + c6 + 256 * (c6 + c7 + 256 * c7))))) := by
    rw [hw2, d1, hw]
    clear d1 hw hw2 hw3 hw4
    omega
  have d2 : w2 / 65536 = c2 + c3 + 256 * (c3 + c4 + 256 * (c4 + c5 + 256 * (c5 + c6 + 256 * (c6 + c7 + 256 * c7)))) := by
    rw [e2]
    clear e2 d1 hw hw2 hw3 hw4
    exact dv8 (by omega)
  have e3 : w3 = (c0 + c1 + c2 + c3 + 256 * (c1 + c2 + c3 + c4 + 256 * (c2 + c3 + c4 + c5 + 256 * (c3 + c4 + c5 + c6)))) + 4294967296 * (c4 + c5 + c6 + c7 + 256 * (c5 + c6 + c7 + 256 * (c6 + c7 + 256 * c7))) := by
    rw [hw3, d2, e2]
    clear d2 e2 d1 hw hw2 hw3 hw4
    omega
  have d3 : w3 / 4294967296 = c4 + c5 + c6 + c7 + 256 * (c5 + c6 + c7 + 256 * (c6 + c7 + 256 * c7)) := by
    rw [e3]
    clear e3 d2 e2 d1 hw hw2 hw3 hw4
    exact dv8 (by omega)
  have e4 : w4 = (c0 + (c1 + (c2 + (c3 + (c4 + (c5 + (c6 + (c7 + 0)))))))) + 128 * (2 * (c1 + c2 + c3 + c4 + c5 + c6 + c7 - c5 - c6 - c7 + (c5 + c6 + c7) + 256 * (c2 + c3 + c4 + c5 + c6 + c7 + 256 * (c3 + c4 + c5 + c6 + c7))) + 33554432 * (c4 + c5 + c6 + c7 + 256 * (c5 + c6 + c7 + 256 * (c6 + c7 + 256 * c7)))) := by
    rw [hw4, d3, e3]
    clear d3 e3 d2 e2 d1 hw hw2 hw3 hw4
    omega
  refine ⟨?_, ?_, ?_, ?_⟩
  · rw [hw]; clear e4 d3 e3 d2 e2 d1 hw hw2 hw3 hw4; omega
  · rw [e2]; clear e4 d3 e3 d2 e2 d1 hw hw2 hw3 hw4; omega
  · rw [e3]; clear e4 d3 e3 d2 e2 d1 hw hw2 hw3 hw4; omega
  · rw [Nat.mod_mod_of_dvd _ (Nat.pow_dvd_pow 2 (by decide)), e4]
    clear e4 d3 e3 d2 e2 d1 hw hw2 hw3 hw4
    exact dm8 (by omega)
theorem lo_bitCount {G : Nat} {x : Int64} {h : pH} : f_Lo_bitCount G x h = some (some (.int (nI (pcn x))), h) := by
  obtain ⟨n, hn, rfl⟩ := wb_of x
  have hL : ∃ L : List Nat, L.length = 8 ∧ (∀ b ∈ L, b < 256) ∧ bv8 L = n := by
    refine ⟨[n % 256, n / 256 % 256, n / 65536 % 256, n / 16777216 % 256, n / 4294967296 % 256, n / 1099511627776 % 256, n / 281474976710656 % 256, n / 72057594037927936 % 256], rfl, ?_, ?_⟩
    · intro b hb
      simp only [List.mem_cons, List.not_mem_nil, or_false] at hb
      omega
    · simp only [bv8]
      omega
  obtain ⟨L, h8, hb, rfl⟩ := hL
  have m1 : mk8 85 L.length = 6148914691236517205 := by rw [h8]; rfl
  have m2 : mk8 51 L.length = 3689348814741910323 := by rw [h8]; rfl
  have m3 : mk8 15 L.length = 1085102592571150095 := by rw [h8]; rfl
  have a1 := s8_1 L hb
  have a1b := s8_1b L hb
  have hbu : ∀ b ∈ L.map u8, b < 256 := fun b hb2 => by
    obtain ⟨c, hc, rfl⟩ := List.mem_map.mp hb2
    exact u8_ok c (hb c hc)
  have a2 := s8_2 (L.map u8) hbu
  have a3 := s8_3 L hb
  have a4 := s8_c L hb
  rw [List.length_map] at a2
  rw [m1] at a1
  rw [m2] at a2
  rw [m3] at a3
  have e1 : bc1 (lN (bv8 L)) = lN (bv8 (L.map u8)) := by
    unfold bc1
    rw [show (1 : Int32) = nI 1 from rfl, wb_shr hn (by decide), show (6148914691236517205 : Int64) = lN 6148914691236517205 from rfl, wb_and (Nat.lt_of_le_of_lt (Nat.div_le_self _ _) hn) (by decide), show 2 ^ 1 = 2 from rfl, a1, lN_sub (by omega)]
    congr 1
    omega
  have b1 : bv8 (L.map u8) < 2 ^ 64 := by omega
  have b2 : ∀ {y : Nat} (m : Nat), m < 2 ^ 63 → y &&& m < 2 ^ 63 := fun m hm => Nat.and_lt_two_pow _ hm
  have e2 : bc2 (lN (bv8 (L.map u8))) = lN (bv8 ((L.map u8).map t8)) := by
    unfold bc2
    rw [show (2 : Int32) = nI 2 from rfl, wb_shr b1 (by decide), show (3689348814741910323 : Int64) = lN 3689348814741910323 from rfl, wb_and (Nat.lt_of_le_of_lt (Nat.div_le_self _ _) b1) (by decide), wb_and b1 (by decide), lN_add, show 2 ^ 2 = 4 from rfl, a2]
  have b3 : bv8 ((L.map u8).map t8) < 2 ^ 63 := by
    rw [← a2]
    have q1 := Nat.and_le_right (n := bv8 (L.map u8)) (m := 3689348814741910323)
    have q2 := Nat.and_le_right (n := bv8 (L.map u8) / 4) (m := 3689348814741910323)
    omega
  have e3 : bc3 (lN (bv8 ((L.map u8).map t8))) = lN (bv8 (L.map (fun b => f8 (t8 (u8 b))))) := by
    unfold bc3
    rw [show (4 : Int32) = nI 4 from rfl, wb_shr (by omega) (by decide), lN_add, show (1085102592571150095 : Int64) = lN 1085102592571150095 from rfl, wb_and (by omega) (by decide), show 2 ^ 4 = 16 from rfl, a3]
  have e9 : L.map (fun b => f8 (t8 (u8 b))) = L.map pc8 := List.map_congr_left (fun b hq => (f8_ok b (hb b hq)).1)
  have hp : pcn (lN (bv8 L)) = sm8 L := by
    rw [← a4, h8]
    unfold pcn
    apply List.countP_congr
    intro i _
    rw [tb_lN hn]
  rw [bc_eq, e1, e2, e3, e9, hp]
  clear e1 e2 e3 e9 hp a1 a1b a2 a3 a4 m1 m2 m3 hbu b1 b2 b3
  match L, h8 with
  | [p0, p1, p2, p3, p4, p5, p6, p7], _ =>
    have q0 := (f8_ok p0 (hb p0 (by simp))).2
    have q1 := (f8_ok p1 (hb p1 (by simp))).2
    have q2 := (f8_ok p2 (hb p2 (by simp))).2
    have q3 := (f8_ok p3 (hb p3 (by simp))).2
    have q4 := (f8_ok p4 (hb p4 (by simp))).2
    have q5 := (f8_ok p5 (hb p5 (by simp))).2
    have q6 := (f8_ok p6 (hb p6 (by simp))).2
    have q7 := (f8_ok p7 (hb p7 (by simp))).2
    show some (some (Value.int ((bc6 (bc5 (bc4 (lN (pc8 p0 + 256 * (pc8 p1 + 256 * (pc8 p2 + 256 * (pc8 p3 + 256 * (pc8 p4 + 256 * (pc8 p5 + 256 * (pc8 p6 + 256 * (pc8 p7 + 256 * 0)))))))))))).toInt32 &&& 127)), h) = some (some (Value.int (nI (pc8 p0 + (pc8 p1 + (pc8 p2 + (pc8 p3 + (pc8 p4 + (pc8 p5 + (pc8 p6 + (pc8 p7 + 0)))))))))), h)
    generalize pc8 p0 = c0 at *
    generalize pc8 p1 = c1 at *
    generalize pc8 p2 = c2 at *
    generalize pc8 p3 = c3 at *
    generalize pc8 p4 = c4 at *
    generalize pc8 p5 = c5 at *
    generalize pc8 p6 = c6 at *
    generalize pc8 p7 = c7 at *
    clear hb hn
    have x4 : ∀ n, n < 2 ^ 62 → bc4 (lN n) = lN (n + n / 256) := fun n hn => by
      unfold bc4
      rw [show (8 : Int32) = nI 8 from rfl, wb_shr (by omega) (by decide), lN_add]
    have x5 : ∀ n, n < 2 ^ 62 → bc5 (lN n) = lN (n + n / 65536) := fun n hn => by
      unfold bc5
      rw [show (16 : Int32) = nI 16 from rfl, wb_shr (by omega) (by decide), lN_add]
    have x6 : ∀ n, n < 2 ^ 62 → bc6 (lN n) = lN (n + n / 4294967296) := fun n hn => by
      unfold bc6
      rw [show (32 : Int32) = nI 32 from rfl, wb_shr (by omega) (by decide), lN_add]
    generalize hw : c0 + 256 * (c1 + 256 * (c2 + 256 * (c3 + 256 * (c4 + 256 * (c5 + 256 * (c6 + 256 * (c7 + 256 * 0))))))) = w
    obtain ⟨b1, b2, b3, d4⟩ := bc_ar q0 q1 q2 q3 q4 q5 q6 q7 hw.symm rfl rfl rfl
    rw [x4 w b1, x5 _ b2, x6 _ b3, lN_i, pk_and _ 7 (by decide)]
    have t : ∀ y : Nat, (nI y).toBitVec.toNat = y % 2 ^ 32 := fun y => BitVec.toNat_ofNat ..
    rw [t, d4]
