/-! PURE: form, of the reference -/
/-- the labels of a way: its digits -/
def uW (N way k : Nat) : Nat := 40 + way / N ^ k % N
theorem enc (N : Nat) : ∀ (m : Nat) (u : Nat → Nat), (∀ k, k < m → u k < N) → ∃ way, way < N ^ m ∧ ∀ k, k < m → way / N ^ k % N = u k := by
  intro m
  induction m with
  | zero => intro u _; exact ⟨0, by simp, fun k hk => absurd hk (by omega)⟩
  | succ m ih =>
    intro u hu
    obtain ⟨w, w1, w2⟩ := ih (fun k => u (k + 1)) (fun k hk => hu (k + 1) (by omega))
    have h0 := hu 0 (by omega)
    refine ⟨u 0 + N * w, ?_, fun k hk => ?_⟩
    · have : N * w + N ≤ N * N ^ m := by
        rw [← Nat.mul_succ]; exact Nat.mul_le_mul_left N w1
      rw [Nat.pow_succ, Nat.mul_comm (N ^ m)]
      omega
    · cases k with
      | zero => rw [Nat.pow_zero, Nat.div_one, dm8 h0]
      | succ k =>
        rw [Nat.pow_succ, Nat.mul_comm (N ^ k), ← Nat.div_div_eq_div_mul, dv8 h0]
        exact w2 k (by omega)
def dfW (N way k : Nat) : Bool := (List.range k).all (fun j => nwT (uW N way) j)
theorem df_bj {P : List Nat} {way : Nat} (hP : okL P) (h : dfW (ndL P).length way (ndL P).length = true) : Bj P (ru P (uW (ndL P).length way)) := by
  unfold dfW at h
  rw [List.all_eq_true] at h
  have dist : ∀ i j : Nat, i < j → j < (ndL P).length → uW (ndL P).length way i ≠ uW (ndL P).length way j := fun i j hij hj => by
    have h1 := h j (List.mem_range.mpr hj)
    unfold nwT at h1
    rw [List.all_eq_true] at h1
    exact of_decide_eq_true (h1 i (List.mem_range.mpr hij))
  refine ⟨fun i hi hs => ?_, fun i j hi hj hn s1 s2 => ?_⟩
  · have c := cn_nd hP (show 40 ≤ 40 + i by omega) hs
    rw [show 40 + i - 40 = i by omega] at c
    unfold ru uW
    have : way / (ndL P).length ^ cnB P i % (ndL P).length < (ndL P).length := Nat.mod_lt _ (by omega)
    omega
  · have c1 := cn_nd hP (show 40 ≤ 40 + i by omega) s1
    have c2 := cn_nd hP (show 40 ≤ 40 + j by omega) s2
    rw [show 40 + i - 40 = i by omega] at c1
    rw [show 40 + j - 40 = j by omega] at c2
    unfold ru
    rcases Nat.lt_trichotomy (cnB P i) (cnB P j) with q | q | q
    · exact dist _ _ q c2.1
    · rw [q] at c1; omega
    · exact fun x => dist _ _ q c1.1 x.symm
theorem bj_way {P : List Nat} {σ : Nat → Nat} (hP : okL P) (h : Bj P σ) : ∃ way, way < (ndL P).length ^ (ndL P).length ∧ dfW (ndL P).length way (ndL P).length = true ∧ imG P (ru P (uW (ndL P).length way)) = imG P σ := by
  have val : ∀ k, k < (ndL P).length → 40 ≤ sg P σ k ∧ sg P σ k < 40 + (ndL P).length := fun k hk => by
    have n := nd_at hk
    exact h.1 _ (by omega) (by rw [show 40 + ((ndL P).getD k 0 - 40) = (ndL P).getD k 0 by omega]; exact n.2)
  obtain ⟨way, w1, w2⟩ := enc (ndL P).length (ndL P).length (fun k => sg P σ k - 40) (fun k hk => by have := val k hk; omega)
  have eq : ∀ k, k < (ndL P).length → uW (ndL P).length way k = sg P σ k := fun k hk => by
    unfold uW
    rw [w2 k hk]
    have := val k hk
    omega
  refine ⟨way, w1, ?_, ?_⟩
  · unfold dfW
    rw [List.all_eq_true]
    intro j hj
    have hj := List.mem_range.mp hj
    unfold nwT
    rw [List.all_eq_true]
    intro i hi
    have hi := List.mem_range.mp hi
    rw [decide_eq_true_eq, eq i (by omega), eq j hj]
    have n1 := nd_at (P := P) (k := i) (by omega)
    have n2 := nd_at hj
    have lt := ndL_asc (g := P) i j hi hj
    exact h.2 _ _ (by omega) (by omega) (by omega) (by rw [show 40 + ((ndL P).getD i 0 - 40) = (ndL P).getD i 0 by omega]; exact n1.2) (by rw [show 40 + ((ndL P).getD j 0 - 40) = (ndL P).getD j 0 by omega]; exact n2.2)
  · refine imG_c hP (fun i hi hs => ?_)
    have c := cn_nd hP (show 40 ≤ 40 + i by omega) hs
    rw [show 40 + i - 40 = i by omega] at c
    unfold ru
    rw [eq _ c.1]
    unfold sg
    rw [c.2, show 40 + i - 40 = i by omega]
/-- what the search for the form leaves as it is -/
def KpF (S0 : Nat → Int32) (R0 : Nat → Nat → Int32) (S : Nat → Int32) (R : Nat → Nat → Int32) : Prop := (∀ j, j ≠ 4 → S j = S0 j) ∧ ∀ j, j ≠ 3 → j ≠ 5 → j ≠ 11 → R j = R0 j
section FMR
variable {G : Nat} {h : pH} {m : Nat} {A : Nat → Nat} {gs : Nat → List Nat}
theorem mo_before {S : Nat → Int32} {R : Nat → Nat → Int32} {L M : List Nat} (hG : 1000 ≤ G) (ha : moA h m A) (hL : moM S R L) (hM : rowL (R 5) M) (l1 : L.length = M.length) (l30 : L.length ≤ 30) (sM : ∀ x ∈ M, x < 2 ^ 20) :
    ∃ b : Bool, f_Mo_isBefore G m (moH h m A S R) = some (some (.int (bI b)), moH h m A S R) ∧ (b = true → lexL L M) ∧ (b = false → lexL M L) := by
  obtain ⟨q1, q2, q3, q4⟩ := hL
  have lp : ∀ (d F i : Nat), d < F → i + d = L.length → (∀ j, j < i → L.getD j 0 = M.getD j 0) → ∃ b : Bool, f_Mo_isBefore_b2 G F m (nI i) (moH h m A S R) = some (some (.int (bI b)), moH h m A S R) ∧ (b = true → lexL L M) ∧ (b = false → lexL M L) := by
    intro d
    induction d with
    | zero =>
      intro F i hF hi he
      obtain ⟨F, rfl⟩ : ∃ F', F = F' + 1 := ⟨F - 1, by omega⟩
      refine ⟨false, by rw [f_Mo_isBefore_b2_eq, mo_g4 ha, Option.bind_some, q1, if_pos (nI_le (by omega) (by omega))]; rfl, fun q => (by cases q), fun _ k hk _ => ?_⟩
      rw [he k (by omega)]; exact Nat.le_refl _
    | succ d ih =>
      intro F i hF hi he
      obtain ⟨F, rfl⟩ : ∃ F', F = F' + 1 := ⟨F - 1, by omega⟩
      have m1 := q4 i (by omega)
      have m2 := sM _ (mem_getD.mpr ⟨i, by omega, rfl⟩)
      have st : f_Mo_isBefore_b2 G (F + 1) m (nI i) (moH h m A S R) = if nI (L.getD i 0) = nI (M.getD i 0) then f_Mo_isBefore_b2 G F m (nI i + 1) (moH h m A S R) else if nI (M.getD i 0) ≤ nI (L.getD i 0) then f_Mo_isBefore_b45 G 0 (moH h m A S R) else f_Mo_isBefore_b45 G 1 (moH h m A S R) := by
        rw [f_Mo_isBefore_b2_eq, mo_g4 ha, Option.bind_some, q1, if_neg (nI_ge (by omega) (by omega)), mo_g3 ha, Option.bind_some, mo_a3 ha (by omega), Option.bind_some, mo_g5 ha, Option.bind_some, mo_a5 ha (by omega), Option.bind_some, q2 i (by omega), hM i (by omega), Option.bind_some, mo_a3 ha (by omega), Option.bind_some, Option.bind_some, mo_a5 ha (by omega), Option.bind_some, q2 i (by omega), hM i (by omega)]
      rw [st]
      by_cases q : L.getD i 0 = M.getD i 0
      · rw [if_pos (by rw [q]), nI_1]
        exact ih F (i + 1) (by omega) (by omega) (fun j hj => by
          rcases Nat.lt_or_ge j i with q2 | q2
          · exact he j q2
          · rw [show j = i by omega]; exact q)
      · rw [if_neg (fun e => q ((nI_eq (by omega) (by omega)).mp e))]
        by_cases q2 : M.getD i 0 ≤ L.getD i 0
        · rw [if_pos (nI_le q2 (by omega)), f_Mo_isBefore_b45_eq]
          refine ⟨false, rfl, fun q => (by cases q), fun _ k hk hag => ?_⟩
          rcases Nat.lt_trichotomy k i with q3 | q3 | q3
          · rw [he k q3]; exact Nat.le_refl _
          · subst q3; exact q2
          · exact absurd (hag i q3) q
        · rw [if_neg (nI_ge (by omega) (by omega)), f_Mo_isBefore_b45_eq]
          refine ⟨true, rfl, fun _ k hk hag => ?_, fun q => (by cases q)⟩
          rcases Nat.lt_trichotomy k i with q3 | q3 | q3
          · rw [he k q3]; exact Nat.le_refl _
          · subst q3; omega
          · exact absurd (hag i q3).symm q
  rw [f_Mo_isBefore_eq]
  exact lp L.length G 0 (by omega) (by omega) (fun j hj => absurd hj (by omega))
/-- the made row kept as the best -/
theorem mo_bestcp {S : Nat → Int32} {R : Nat → Nat → Int32} {L : List Nat} {x1 x2 x4 : Int32} (k173 : Nat → Int32 → Int32 → Int32 → Int32 → pH → Option pR) (hG : 1000 ≤ G) (ha : moA h m A) (hL : moM S R L) (l30 : L.length ≤ 30) :
    ∃ f : Nat → Int32, f_Mo_findForm_b141 G k173 m x1 x2 x4 (nI L.length) (moH h m A S R) = k173 m x1 x2 1 x4 (moH h m A S (upR R 5 f)) ∧ rowL f L := by
  have lp : ∀ (d F i : Nat) (f : Nat → Int32), d < F → i + d = L.length → (∀ j, j < i → f j = nI (L.getD j 0)) → ∃ f2 : Nat → Int32, f_Mo_findForm_b146 G k173 F m x1 x2 1 x4 (nI L.length) (nI i) (moH h m A S (upR R 5 f)) = k173 m x1 x2 1 x4 (moH h m A S (upR R 5 f2)) ∧ rowL f2 L := by
    intro d
    induction d with
    | zero =>
      intro F i f hF hi hf
      obtain ⟨F, rfl⟩ : ∃ F', F = F' + 1 := ⟨F - 1, by omega⟩
      exact ⟨f, by rw [f_Mo_findForm_b146_eq, if_pos (nI_le (by omega) (by omega))], fun j hj => hf j (by omega)⟩
    | succ d ih =>
      intro F i f hF hi hf
      obtain ⟨F, rfl⟩ : ∃ F', F = F' + 1 := ⟨F - 1, by omega⟩
      obtain ⟨f2, a1, a2⟩ := ih F (i + 1) (upd f i (nI (L.getD i 0))) (by omega) (by omega) (fun j hj => by
        simp only [upd]
        by_cases q : j = i
        · rw [if_pos q, q]
        · rw [if_neg q]; exact hf j (by omega))
      refine ⟨f2, ?_, a2⟩
      have e3 : upR R 5 f 3 = R 3 := upR_n (by decide)
      rw [f_Mo_findForm_b146_eq, if_neg (nI_ge (by omega) (by omega)), mo_g5 ha, Option.bind_some, mo_g3 ha, Option.bind_some, mo_a3 ha (by omega), Option.bind_some, e3, hL.2.1 i (by omega), mo_s5 ha (by omega), Option.bind_some, upR_s, upR_u, nI_1, a1]
  have uid : upR R 5 (R 5) = R := funext fun i => by unfold upR; split <;> simp_all
  obtain ⟨f2, a1, a2⟩ := lp L.length G 0 (R 5) (by omega) (by omega) (fun j hj => absurd hj (by omega))
  rw [uid] at a1
  exact ⟨f2, by rw [f_Mo_findForm_b141_eq]; exact a1, a2⟩
/-- one way -/
theorem mo_way {p way all : Nat} {sm : Bool} {Lb : List Nat} {S0 : Nat → Int32} {R0 : Nat → Nat → Int32} (k37 : Nat → Int32 → Int32 → Int32 → Int32 → pH → Option pR) (hG : 1000 ≤ G) (ha : moA h m A) (hp : p < 6) (hA : Asc (gs p)) (hP : okL (gs p)) (hR0 : moG R0 gs) (hN0 : moN S0 R0 (ndL (gs p))) (hway : way < 46656) (S : Nat → Int32) (R : Nat → Nat → Int32) (hK : KpF S0 R0 S R) (hb : sm = true → rowL (R 5) Lb ∧ ∃ σ, Bj (gs p) σ ∧ Lb = imG (gs p) σ) :
    ∃ (S2 : Nat → Int32) (R2 : Nat → Nat → Int32) (sm2 : Bool) (L2 : List Nat), f_Mo_findForm_b53 G k37 G m (nI p) (nI all) (bI sm) (nI way) (nI way) 1 0 (moH h m A S R) = k37 m (nI p) (nI all) (bI sm2) (nI (way + 1)) (moH h m A S2 R2) ∧ KpF S0 R0 S2 R2 ∧ (sm2 = true → rowL (R2 5) L2 ∧ ∃ σ, Bj (gs p) σ ∧ L2 = imG (gs p) σ) ∧ (sm = true → sm2 = true ∧ lexL L2 Lb) ∧ (dfW (ndL (gs p)).length way (ndL (gs p)).length = true → sm2 = true ∧ lexL L2 (imG (gs p) (ru (gs p) (uW (ndL (gs p)).length way)))) := by
  have l6 := ndL_len (g := gs p)
  have l30 := (hR0 p hp).2.1
  have lp : ∀ (d F k : Nat) (R : Nat → Nat → Int32), d < F → k + d = (ndL (gs p)).length → KpF S0 R0 S R → (sm = true → rowL (R 5) Lb) → (∀ j, j < k → R 11 j = nI (uW (ndL (gs p)).length way j)) →
      ∃ (S2 : Nat → Int32) (R2 : Nat → Nat → Int32) (sm2 : Bool) (L2 : List Nat), f_Mo_findForm_b53 G k37 F m (nI p) (nI all) (bI sm) (nI way) (nI (way / (ndL (gs p)).length ^ k)) (bI (dfW (ndL (gs p)).length way k)) (nI k) (moH h m A S R) = k37 m (nI p) (nI all) (bI sm2) (nI (way + 1)) (moH h m A S2 R2) ∧ KpF S0 R0 S2 R2 ∧ (sm2 = true → rowL (R2 5) L2 ∧ ∃ σ, Bj (gs p) σ ∧ L2 = imG (gs p) σ) ∧ (sm = true → sm2 = true ∧ lexL L2 Lb) ∧ (dfW (ndL (gs p)).length way (ndL (gs p)).length = true → sm2 = true ∧ lexL L2 (imG (gs p) (ru (gs p) (uW (ndL (gs p)).length way)))) := by
    intro d
    induction d with
    | zero =>
      intro F k R hF hk hK hb5 hU
      obtain ⟨F, rfl⟩ : ∃ F', F = F' + 1 := ⟨F - 1, by omega⟩
      have hkN : k = (ndL (gs p)).length := by omega
      subst hkN
      have mG : moG R gs := moG_n hR0 (hK.2 1 (by decide) (by decide) (by decide)) (hK.2 2 (by decide) (by decide) (by decide))
      have mN : moN S R (ndL (gs p)) := ⟨by rw [hK.1 7 (by decide)]; exact hN0.1, by rw [hK.2 6 (by decide) (by decide) (by decide)]; exact hN0.2⟩
      rw [f_Mo_findForm_b53_eq, mo_g7 ha, Option.bind_some, mN.1, if_pos (nI_le (by omega) (by omega))]
      cases hd : dfW (ndL (gs p)).length way (ndL (gs p)).length
      · rw [if_pos (show bI false = 0 from rfl), f_Mo_findForm_b173_eq, nI_1]
        exact ⟨S, R, sm, Lb, rfl, hK, fun q => ⟨hb5 q, (hb q).2⟩, fun q => ⟨q, lexL.rf⟩, fun q => (by cases q)⟩
      · rw [if_neg (show ¬ bI true = 0 by decide)]
        have bj := df_bj hP hd
        have hPo : moP R (ndL (gs p)) (ru (gs p) (uW (ndL (gs p)).length way)) (ndL (gs p)).length := fun j hj => by
          unfold ru
          rw [cn_at2 hj]; exact hU j hj
        obtain ⟨S2, f2, b1, b2, b3⟩ := mo_imageSize (G := G) (by omega) ha mG hp mN hPo hP (bj.ij.tot hP)
        have b2 : moM S2 (upR R 3 f2) (imG (gs p) (ru (gs p) (uW (ndL (gs p)).length way))) := b2
        have b1 : f_Mo_imageSize G m (nI p) (moH h m A S R) = some (some (.int (nI (imG (gs p) (ru (gs p) (uW (ndL (gs p)).length way))).length)), moH h m A S2 (upR R 3 f2)) := b1
        have len := bj.ij.len hA hP
        have k2 : KpF S0 R0 S2 (upR R 3 f2) := ⟨fun j hj => by rw [b3 j hj]; exact hK.1 j hj, fun j h1 h2 h3 => by rw [upR_n h1]; exact hK.2 j h1 h2 h3⟩
        obtain ⟨f5, c1, c2⟩ := mo_bestcp (G := G) (x1 := nI p) (x2 := nI all) (x4 := nI way) (f_Mo_findForm_b173 G k37) hG ha b2 (by omega)
        have k3 : KpF S0 R0 S2 (upR (upR R 3 f2) 5 f5) := ⟨k2.1, fun j h1 h2 h3 => by rw [upR_n h2]; exact k2.2 j h1 h2 h3⟩
        have take : f_Mo_findForm_b141 G (f_Mo_findForm_b173 G k37) m (nI p) (nI all) (nI way) (nI (imG (gs p) (ru (gs p) (uW (ndL (gs p)).length way))).length) (moH h m A S2 (upR R 3 f2)) = k37 m (nI p) (nI all) (bI true) (nI (way + 1)) (moH h m A S2 (upR (upR R 3 f2) 5 f5)) := by
          rw [c1, f_Mo_findForm_b173_eq, nI_1]; rfl
        rw [cI_of (mo_is ha) b1]
        cases sm
        · rw [if_pos (show bI false = 0 from rfl), take]
          exact ⟨S2, _, true, _, rfl, k3, fun _ => ⟨by rw [upR_s]; exact c2, _, bj, rfl⟩, fun q => (by cases q), fun _ => ⟨rfl, lexL.rf⟩⟩
        · rw [if_neg (show ¬ bI true = 0 by decide)]
          obtain ⟨σ, s1, s2⟩ := (hb rfl).2
          have lL : Lb.length = (gs p).length := by rw [s2]; exact s1.ij.len hA hP
          obtain ⟨b, d1, d2, d3⟩ := mo_before (G := G) hG ha b2 (M := Lb) (hb5 rfl) (by omega) (by omega) (by rw [s2]; exact bj_sm hP s1)
          rw [cI_of (mo_is ha) d1]
          cases b
          · rw [if_pos (show bI false = 0 from rfl), f_Mo_findForm_b173_eq, nI_1]
            exact ⟨S2, _, true, Lb, rfl, k2, fun _ => ⟨hb5 rfl, σ, s1, s2⟩, fun _ => ⟨rfl, lexL.rf⟩, fun _ => ⟨rfl, d3 rfl⟩⟩
          · rw [if_neg (show ¬ bI true = 0 by decide), take]
            exact ⟨S2, _, true, _, rfl, k3, fun _ => ⟨by rw [upR_s]; exact c2, _, bj, rfl⟩, fun _ => ⟨rfl, d2 rfl⟩, fun _ => ⟨rfl, lexL.rf⟩⟩
    | succ d ih =>
      intro F k R hF hk hK hb5 hU
      obtain ⟨F, rfl⟩ : ∃ F', F = F' + 1 := ⟨F - 1, by omega⟩
      have mN : S 7 = nI (ndL (gs p)).length := by rw [hK.1 7 (by decide)]; exact hN0.1
      have hNp : 0 < (ndL (gs p)).length := by omega
      have wl : way / (ndL (gs p)).length ^ k ≤ way := Nat.div_le_self _ _
      have ml : way / (ndL (gs p)).length ^ k % (ndL (gs p)).length < (ndL (gs p)).length := Nat.mod_lt _ hNp
      have e1 : nI (way / (ndL (gs p)).length ^ k) - nI (way / (ndL (gs p)).length ^ k) / nI (ndL (gs p)).length * nI (ndL (gs p)).length = nI (way / (ndL (gs p)).length ^ k % (ndL (gs p)).length) := pk_rem (by omega) hNp (by omega)
      have e2 : nI (way / (ndL (gs p)).length ^ k) / nI (ndL (gs p)).length = nI (way / (ndL (gs p)).length ^ (k + 1)) := by
        rw [pk_div (by omega) hNp (by omega), Nat.div_div_eq_div_mul, ← Nat.pow_succ]
      have e3 : (40 : Int32) + nI (way / (ndL (gs p)).length ^ k % (ndL (gs p)).length) = nI (uW (ndL (gs p)).length way k) := by
        rw [show (40 : Int32) = nI 40 from rfl, nI_add]; rfl
      have d1 : dfW (ndL (gs p)).length way (k + 1) = (dfW (ndL (gs p)).length way k && nwT (uW (ndL (gs p)).length way) k) := rall1 _ _
      have k2 : KpF S0 R0 S (upR R 11 (upd (R 11) k (nI (uW (ndL (gs p)).length way k)))) := ⟨hK.1, fun j h1 h2 h3 => by rw [upR_n h3]; exact hK.2 j h1 h2 h3⟩
      have U2 : ∀ j, j < k + 1 → upR R 11 (upd (R 11) k (nI (uW (ndL (gs p)).length way k))) 11 j = nI (uW (ndL (gs p)).length way j) := fun j hj => by
        rw [upR_s]
        simp only [upd]
        by_cases q : j = k
        · rw [if_pos q, q]
        · rw [if_neg q]; exact hU j (by omega)
      have i1 := ih F (k + 1) (upR R 11 (upd (R 11) k (nI (uW (ndL (gs p)).length way k)))) (by omega) (by omega) k2 hb5 U2
      rw [d1] at i1
      have st : f_Mo_findForm_b53 G k37 (F + 1) m (nI p) (nI all) (bI sm) (nI way) (nI (way / (ndL (gs p)).length ^ k)) (bI (dfW (ndL (gs p)).length way k)) (nI k) (moH h m A S R) = f_Mo_findForm_b53 G k37 F m (nI p) (nI all) (bI sm) (nI way) (nI (way / (ndL (gs p)).length ^ (k + 1))) (bI (dfW (ndL (gs p)).length way k && nwT (uW (ndL (gs p)).length way) k)) (nI (k + 1)) (moH h m A S (upR R 11 (upd (R 11) k (nI (uW (ndL (gs p)).length way k))))) := by
        rw [f_Mo_findForm_b53_eq, mo_g7 ha, Option.bind_some, mN, if_neg (nI_ge (by omega) (by omega)), mo_g11 ha, Option.bind_some, Option.bind_some, if_neg (nI_ne0 hNp (by omega)), e1, e3, mo_s11 ha (by omega), Option.bind_some, mo_g7 ha, Option.bind_some, mN, if_neg (nI_ne0 hNp (by omega)), e2]
        cases dfW (ndL (gs p)).length way k
        · rw [if_pos (show bI false = 0 from rfl), f_Mo_findForm_b106_eq, f_Mo_findForm_b107_eq, nI_1, Bool.false_and]; rfl
        · rw [if_neg (show ¬ bI true = 0 by decide), cI_of (mo_is ha) (mo_isNew (u := uW (ndL (gs p)).length way) (by omega) ha (by omega) (fun j hj => U2 j (by omega)) (fun j hj => by
            unfold uW
            have : way / (ndL (gs p)).length ^ j % (ndL (gs p)).length < (ndL (gs p)).length := Nat.mod_lt _ hNp
            omega)), Bool.true_and]
          cases nwT (uW (ndL (gs p)).length way) k
          · rw [if_pos (show bI false = 0 from rfl), f_Mo_findForm_b106_eq, f_Mo_findForm_b107_eq, nI_1]; rfl
          · rw [if_neg (show ¬ bI true = 0 by decide), f_Mo_findForm_b107_eq, nI_1]; rfl
      rw [st]
      exact i1
  have := lp (ndL (gs p)).length G 0 R (by omega) (by omega) hK (fun q => (hb q).1) (fun j hj => absurd hj (by omega))
  rw [Nat.pow_zero, Nat.div_one] at this
  exact this
theorem pow6 : ∀ N, N < 7 → N ^ N ≤ 46656 ∧ 0 < N ^ N ∧ ∀ k, k < 7 → k ≤ N → N ^ k ≤ 46656 := by decide +kernel
theorem mo_findForm {p : Nat} {S : Nat → Int32} {R : Nat → Nat → Int32} (hG : 2 ^ 40 ≤ G) (ha : moA h m A) (hR : moG R gs) (hp : p < 6) (hA : Asc (gs p)) (hP : okL (gs p)) :
    ∃ (S2 : Nat → Int32) (R2 : Nat → Nat → Int32) (L : List Nat), f_Mo_findForm G m (nI p) (moH h m A S R) = some (none, moH h m A S2 R2) ∧ FormOf (gs p) L ∧ rowL (R2 5) L ∧ (∀ j, j ≠ 4 → j ≠ 7 → j ≠ 9 → S2 j = S j) ∧ ∀ j, j ≠ 3 → j ≠ 5 → j ≠ 6 → j ≠ 8 → j ≠ 11 → R2 j = R j := by
  have l6 := ndL_len (g := gs p)
  obtain ⟨S1, R1, p1, p2, p3, p4, p5⟩ := mo_prepare (G := G) (w := 0) (S := S) (by omega) ha hR hp hp hP.sm hP.sm
  have mG1 : moG R1 gs := moG_n hR (p5 1 (by decide) (by decide)) (p5 2 (by decide) (by decide))
  have pw := pow6 (ndL (gs p)).length (by omega)
  generalize hall : (ndL (gs p)).length ^ (ndL (gs p)).length = all at *
  -- all ways
  have ways : ∀ (d F way : Nat) (S : Nat → Int32) (R : Nat → Nat → Int32) (sm : Bool) (Lb : List Nat), d < F → way + d = all → KpF S1 R1 S R → (sm = true → rowL (R 5) Lb ∧ ∃ σ, Bj (gs p) σ ∧ Lb = imG (gs p) σ) → (∀ y, y < way → dfW (ndL (gs p)).length y (ndL (gs p)).length = true → sm = true ∧ lexL Lb (imG (gs p) (ru (gs p) (uW (ndL (gs p)).length y)))) →
      ∃ (S2 : Nat → Int32) (R2 : Nat → Nat → Int32) (sm2 : Bool) (L2 : List Nat), f_Mo_findForm_b37 G F m (nI p) (nI all) (bI sm) (nI way) (moH h m A S R) = some (none, moH h m A S2 R2) ∧ KpF S1 R1 S2 R2 ∧ (sm2 = true → rowL (R2 5) L2 ∧ ∃ σ, Bj (gs p) σ ∧ L2 = imG (gs p) σ) ∧ ∀ y, y < all → dfW (ndL (gs p)).length y (ndL (gs p)).length = true → sm2 = true ∧ lexL L2 (imG (gs p) (ru (gs p) (uW (ndL (gs p)).length y))) := by
    intro d
    induction d with
    | zero =>
      intro F way S R sm Lb hF hw hK hb hc
      obtain ⟨F, rfl⟩ : ∃ F', F = F' + 1 := ⟨F - 1, by omega⟩
      exact ⟨S, R, sm, Lb, by rw [f_Mo_findForm_b37_eq, if_pos (nI_le (by omega) (by omega))], hK, hb, fun y hy => hc y (by omega)⟩
    | succ d ih =>
      intro F way S R sm Lb hF hw hK hb hc
      obtain ⟨F, rfl⟩ : ∃ F', F = F' + 1 := ⟨F - 1, by omega⟩
      obtain ⟨S2, R2, sm2, L2, a1, a2, a3, a4, a5⟩ := mo_way (G := G) (gs := gs) (all := all) (f_Mo_findForm_b37 G F) (by omega) ha hp hA hP mG1 p2 (show way < 46656 by omega) S R hK hb
      obtain ⟨S3, R3, sm3, L3, b1, b2, b3, b4⟩ := ih F (way + 1) S2 R2 sm2 L2 (by omega) (by omega) a2 a3 (fun y hy hd => by
        rcases Nat.lt_or_ge y way with q | q
        · obtain ⟨c1, c2⟩ := hc y q hd
          obtain ⟨e1, e2⟩ := a4 c1
          refine ⟨e1, lexL.tr ?_ e2 c2⟩
          obtain ⟨σ, s1, s2⟩ := (a3 e1).2
          obtain ⟨τ, t1, t2⟩ := (hb c1).2
          rw [s2, t2, s1.ij.len hA hP, t1.ij.len hA hP]
        · have : y = way := by omega
          subst this; exact a5 hd)
      refine ⟨S3, R3, sm3, L3, ?_, b2, b3, b4⟩
      rw [f_Mo_findForm_b37_eq, if_neg (nI_ge (by omega) (by omega))]
      exact a1.trans b1
  -- how many ways
  have cnt : ∀ (d F k : Nat), d < F → k + d = (ndL (gs p)).length → f_Mo_findForm_b11 G F m (nI p) (nI ((ndL (gs p)).length ^ k)) (nI k) (moH h m A S1 R1) = f_Mo_findForm_b37 G G m (nI p) (nI all) 0 0 (moH h m A S1 R1) := by
    intro d
    induction d with
    | zero =>
      intro F k hF hk
      obtain ⟨F, rfl⟩ : ∃ F', F = F' + 1 := ⟨F - 1, by omega⟩
      rw [f_Mo_findForm_b11_eq, mo_g7 ha, Option.bind_some, p2.1, if_pos (nI_le (by omega) (by omega)), show k = (ndL (gs p)).length by omega, hall]
    | succ d ih =>
      intro F k hF hk
      obtain ⟨F, rfl⟩ : ∃ F', F = F' + 1 := ⟨F - 1, by omega⟩
      rw [f_Mo_findForm_b11_eq, mo_g7 ha, Option.bind_some, p2.1, if_neg (nI_ge (by omega) (by omega)), Option.bind_some, pk_mul, ← Nat.pow_succ, nI_1, ih F (k + 1) (by omega) (by omega)]
  obtain ⟨S2, R2, sm2, L2, a1, a2, a3, a4⟩ := ways all G 0 S1 R1 false [] (by omega) (by omega) ⟨fun _ _ => rfl, fun _ _ _ _ => rfl⟩ (fun q => (by cases q)) (fun y hy => absurd hy (by omega))
  -- some way keeps the nodes apart
  have id_bj : Bj (gs p) (fun i => 40 + cnB (gs p) i) := by
    refine ⟨fun i hi hs => ?_, fun i j hi hj hn s1 s2 => ?_⟩
    · have c := cn_nd hP (show 40 ≤ 40 + i by omega) hs
      rw [show 40 + i - 40 = i by omega] at c
      show 40 ≤ 40 + cnB (gs p) i ∧ 40 + cnB (gs p) i < _
      omega
    · have c1 := cn_nd hP (show 40 ≤ 40 + i by omega) s1
      have c2 := cn_nd hP (show 40 ≤ 40 + j by omega) s2
      rw [show 40 + i - 40 = i by omega] at c1
      rw [show 40 + j - 40 = j by omega] at c2
      show 40 + cnB (gs p) i ≠ 40 + cnB (gs p) j
      intro q
      have : cnB (gs p) i = cnB (gs p) j := by omega
      rw [this] at c1
      omega
  obtain ⟨w0, w1, w2, w3⟩ := bj_way hP id_bj
  rw [hall] at w1
  have ht := (a4 w0 w1 w2).1
  subst ht
  refine ⟨S2, R2, L2, ?_, ⟨(a3 rfl).2, fun σ hσ => ?_⟩, (a3 rfl).1, fun j h1 h2 h3 => (a2.1 j h1).trans (p4 j h2 h3), fun j h1 h2 h3 h4 h5 => (a2.2 j h1 h2 h5).trans (p5 j h3 h4)⟩
  · have c0 := cnt (ndL (gs p)).length G 0 (by omega) (by omega)
    rw [Nat.pow_zero] at c0
    rw [f_Mo_findForm_eq, cV_of (mo_is ha) p1]
    refine Eq.trans c0 ?_
    exact a1
  · obtain ⟨y, y1, y2, y3⟩ := bj_way hP hσ
    rw [hall] at y1
    rw [← y3]; exact (a4 y y1 y2).2
variable {S : Nat → Int32} {R : Nat → Nat → Int32}
theorem mo_form26 {x1 x2 : Int32} (ha : moA h m A) : f_Mo_form_b26 G (f_Mo_form_b27 G) m x1 x2 m (moH h m A S R) = some (some (.int 0), moH h m A (upd S 0 1) R) := by
  rw [f_Mo_form_b26_eq, f_Mo_form_b27_eq, cI_of (mo_is ha) (mo_there0 ha), if_pos rfl]
theorem mo_form_no1 {x1 x2 : Int32} (ha : moA h m A) (hg : ¬ okG x1) : f_Mo_form G m x1 x2 (moH h m A S R) = some (some (.int 0), moH h m A (upd S 0 1) R) := by
  rw [f_Mo_form_eq, cI_of rfl mo_isGraph, if_pos (by rw [if_neg hg]), mo_form26 ha]
theorem mo_form_no2 {g : Nat} {x2 : Int32} (ha : moA h m A) (hR : moG R gs) (hg : g < 6) (hk : ¬ okK (gs g) x2) : f_Mo_form G m (nI g) x2 (moH h m A S R) = some (some (.int 0), moH h m A (upd S 0 1) R) := by
  obtain ⟨q1, q2, q3⟩ := hR g hg
  rw [f_Mo_form_eq, cI_of rfl mo_isGraph, if_neg (by rw [if_pos (okG_of hg)]; decide)]
  by_cases h1 : x2 < 0
  · rw [if_pos h1, mo_form26 ha]
  · rw [if_neg h1, mo_g2 ha, Option.bind_some, mo_a2 ha hg, Option.bind_some, q1]
    rw [i_lt0] at h1
    rw [if_pos, mo_form26 ha]
    rw [Int32.le_iff_toInt_le, nI_toInt (by omega)]
    unfold okK at hk
    omega
theorem mo_form {g k : Nat} (hG : 2 ^ 40 ≤ G) (ha : moA h m A) (hR : moG R gs) (hg : g < 6) (hA : Asc (gs g)) (hP : okL (gs g)) (hk : k < (gs g).length) :
    ∃ (S2 : Nat → Int32) (R2 : Nat → Nat → Int32) (L : List Nat), f_Mo_form G m (nI g) (nI k) (moH h m A S R) = some (some (.int (nI (L.getD k 0))), moH h m A S2 R2) ∧ FormOf (gs g) L ∧ S2 0 = 0 ∧ KpQ S R S2 R2 := by
  obtain ⟨q1, q2, q3⟩ := hR g hg
  obtain ⟨S2, R2, L, a1, a2, a3, a4, a5⟩ := mo_findForm (G := G) (S := upd S 0 0) hG ha hR hg hA hP
  have hl := a2.len hA hP
  refine ⟨S2, R2, L, ?_, a2, by rw [a4 0 (by decide) (by decide) (by decide)]; simp [upd], ⟨fun j h0 h1 h2 h3 => by rw [a4 j h1 h2 h3]; simp [upd, h0], fun j h1 h2 h3 h4 _ h6 => a5 j h1 h2 h3 h4 h6⟩⟩
  rw [f_Mo_form_eq, cI_of rfl mo_isGraph, if_neg (by rw [if_pos (okG_of hg)]; decide), if_neg (nI_pos (by omega)), mo_g2 ha, Option.bind_some, mo_a2 ha hg, Option.bind_some, q1, if_neg (nI_ge hk (by omega)), f_Mo_form_b27_eq, cI_of (mo_is ha) (mo_there1 ha), if_neg (by decide), cV_of (mo_is ha) a1, mo_g5 ha, Option.bind_some, mo_a5 ha (by omega), Option.bind_some, a3 k (by omega)]
end FMR
