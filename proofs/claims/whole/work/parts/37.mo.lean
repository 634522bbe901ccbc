/-- what the reference has made: an ascending row -/
def moM (S : Nat → Int32) (R : Nat → Nat → Int32) (l : List Nat) : Prop := S 4 = nI l.length ∧ (∀ i : Nat, i < l.length → R 3 i = nI (l.getD i 0)) ∧ Asc l ∧ Sm l
section MO3
variable {h : pH} {m : Nat} {A : Nat → Nat}
theorem mo_ins_loop {G n c len : Nat} {S : Nat → Int32} {R : Nat → Nat → Int32} (ha : moA h m A) (hS : S 4 = nI len) (hlen : len < 63) :
    ∀ (d F : Nat) (f : Nat → Int32), d < F → c + d ≤ 62 →
      f_Mo_add_b49 G F m (nI n) (nI c) (nI (c + d)) (moH h m A S (upR R 3 f)) = some (none, moH h m A (upd S 4 (nI (len + 1))) (upR R 3 (upd (shU f c d) c (nI n)))) := by
  have uu : ∀ f g : Nat → Int32, upR (upR R 3 f) 3 g = upR R 3 g := fun f g => funext fun i => by unfold upR; split <;> rfl
  have us : ∀ f : Nat → Int32, upR R 3 f 3 = f := fun f => if_pos rfl
  intro d
  induction d with
  | zero =>
    intro F f hF hc
    obtain ⟨F, rfl⟩ : ∃ F', F = F' + 1 := ⟨F - 1, by omega⟩
    have e0 : shU f c 0 = f := funext fun i => by unfold shU; rw [if_neg (by omega)]
    rw [f_Mo_add_b49_eq, if_pos (nI_le (by omega) (by omega)), mo_g3 ha, Option.bind_some, mo_s3 ha (by omega), Option.bind_some, mo_g4 ha, Option.bind_some, mo_p4 ha, Option.bind_some, hS, nI_1, e0, us, uu]
  | succ d ih =>
    intro F f hF hc
    obtain ⟨F, rfl⟩ : ∃ F', F = F' + 1 := ⟨F - 1, by omega⟩
    have e : upd (shU (upd f (c + d + 1) (f (c + d))) c d) c (nI n) = upd (shU f c (d + 1)) c (nI n) := funext fun i => by
      simp only [upd, shU]
      by_cases h1 : i = c
      · rw [if_pos h1, if_pos h1]
      · rw [if_neg h1, if_neg h1]
        by_cases h2 : c < i ∧ i ≤ c + d
        · rw [if_pos h2, if_neg (by omega), if_pos (by omega)]
        · rw [if_neg h2]
          by_cases h3 : i = c + d + 1
          · rw [if_pos h3, if_pos (by omega), h3]; rfl
          · rw [if_neg h3, if_neg (by omega)]
    rw [f_Mo_add_b49_eq, if_neg (nI_ge (by omega) (by omega)), mo_g3 ha, Option.bind_some, Option.bind_some, show c + (d + 1) = (c + d) + 1 by omega, nI_pred, mo_a3 ha (by omega), Option.bind_some, mo_s3 ha (by omega), Option.bind_some, us, uu, pk_m1, ih F _ (by omega) (by omega), e]
theorem mo_find_loop {G n u : Nat} {S : Nat → Int32} {R : Nat → Nat → Int32} {l : List Nat} (ha : moA h m A) (hl : moM S R l) (hlen : l.length ≤ 64) (hn : n < 2 ^ 20) (hu : Pl l (n + 1) u) :
    ∀ (d F : Nat), d < F → u + d ≤ l.length → f_Mo_add_b5 G F m (nI n) (nI (u + d)) (moH h m A S R) = f_Mo_add_b27 G m (nI n) (nI u) (moH h m A S R) := by
  obtain ⟨q1, q2, q3, q4⟩ := hl
  obtain ⟨u1, u2, u3⟩ := hu
  intro d
  induction d with
  | zero =>
    intro F hF hd
    obtain ⟨F, rfl⟩ : ∃ F', F = F' + 1 := ⟨F - 1, by omega⟩
    rw [f_Mo_add_b5_eq, Nat.add_zero]
    by_cases h0 : u = 0
    · rw [if_pos (by rw [h0]; decide)]
    · obtain ⟨w, rfl⟩ : ∃ w, u = w + 1 := ⟨u - 1, by omega⟩
      have := u2 w (by omega)
      have := q4 w (by omega)
      rw [if_neg (nI_nle (by omega) (by omega)), mo_g3 ha, Option.bind_some, nI_pred, mo_a3 ha (by omega), Option.bind_some, q2 w (by omega), if_pos (nI_le (by omega) (by omega))]
  | succ d ih =>
    intro F hF hd
    obtain ⟨F, rfl⟩ : ∃ F', F = F' + 1 := ⟨F - 1, by omega⟩
    have := u3 (u + d) (by omega) (by omega)
    have := q4 (u + d) (by omega)
    rw [f_Mo_add_b5_eq, show u + (d + 1) = (u + d) + 1 by omega, if_neg (nI_nle (by omega) (by omega)), mo_g3 ha, Option.bind_some, nI_pred, mo_a3 ha (by omega), Option.bind_some, q2 (u + d) (by omega), if_neg (nI_ge (by omega) (by omega)), pk_m1, ih F (by omega) (by omega)]
/-- add(n) -/
theorem mo_add {G n : Nat} {S : Nat → Int32} {R : Nat → Nat → Int32} {l : List Nat} (hG : 100 ≤ G) (ha : moA h m A) (hl : moM S R l) (hlen : l.length < 63) (hn : n < 2 ^ 20) : ∃ (S2 : Nat → Int32) (f2 : Nat → Int32), f_Mo_add G m (nI n) (moH h m A S R) = some (none, moH h m A S2 (upR R 3 f2)) ∧ moM S2 (upR R 3 f2) (gIns n l) ∧ ∀ j : Nat, j ≠ 4 → S2 j = S j := by
  obtain ⟨q1, q2, q3, q4⟩ := id hl
  obtain ⟨u, hu⟩ := Pl.ex q3 (n + 1)
  obtain ⟨u1, u2, u3⟩ := id hu
  have uid : upR R 3 (R 3) = R := funext fun i => by unfold upR; split <;> simp_all
  have hsm : Sm (gIns n l) := Sm_mem.mpr fun k hk => by
    rcases gIns_mem.mp hk with h1 | h1
    · exact Sm_mem.mp q4 k h1
    · omega
  have hb : f_Mo_add G m (nI n) (moH h m A S R) = f_Mo_add_b27 G m (nI n) (nI u) (moH h m A S R) := by
    have h1 := mo_find_loop (G := G) ha hl (by omega) hn hu (l.length - u) G (by omega) (by omega)
    rw [show u + (l.length - u) = l.length by omega] at h1
    rw [f_Mo_add_eq, mo_g4 ha, Option.bind_some, q1, h1]
  -- it goes in at u
  have ins : n ∉ l → f_Mo_add_b44 G m (nI n) (nI u) (moH h m A S R) = some (none, moH h m A (upd S 4 (nI (l.length + 1))) (upR R 3 (upd (shU (R 3) u (l.length - u)) u (nI n)))) := by
    intro _
    have h1 := mo_ins_loop (G := G) (n := n) (c := u) (R := R) ha q1 hlen (l.length - u) G (R 3) (by omega) (by omega)
    rw [uid, show u + (l.length - u) = l.length by omega] at h1
    rw [f_Mo_add_b44_eq, mo_g4 ha, Option.bind_some, q1, h1]
  have fin : n ∉ l → moM (upd S 4 (nI (l.length + 1))) (upR R 3 (upd (shU (R 3) u (l.length - u)) u (nI n))) (gIns n l) := by
    intro hm
    have hp : Pl l n u := ⟨u1, fun i hi => by
      have h1 := u2 i hi
      have h2 : l.getD i 0 ≠ n := fun q => hm (mem_getD.mpr ⟨i, by omega, q⟩)
      omega, fun i h1 h2 => by have := u3 i h1 h2; omega⟩
    refine ⟨?_, fun i hi => ?_, gIns_asc q3, hsm⟩
    · rw [gIns_len q3 hm]; simp [upd]
    · rw [gIns_len q3 hm] at hi
      rw [← insL_eq q3 hp hm, insL_get u1]
      simp only [upR, upd, shU, if_true]
      by_cases h1 : i = u
      · rw [if_pos h1, if_neg (by omega), if_pos h1]
      · rw [if_neg h1]
        by_cases h2 : i < u
        · rw [if_neg (by omega), if_pos h2]; exact q2 i (by omega)
        · rw [if_pos (by omega), if_neg h2, if_neg h1]; exact q2 (i - 1) (by omega)
  have hS2 : ∀ j : Nat, j ≠ 4 → upd S 4 (nI (l.length + 1)) j = S j := fun j hj => by simp [upd, hj]
  by_cases h0 : u = 0
  · have hm : n ∉ l := fun q => by
      obtain ⟨i, h1, h2⟩ := mem_getD.mp q
      have := u3 i (by omega) h1
      omega
    exact ⟨_, _, by rw [hb, f_Mo_add_b27_eq, if_pos (by rw [h0]; decide), ins hm], fin hm, hS2⟩
  · obtain ⟨w, hw⟩ : ∃ w, u = w + 1 := ⟨u - 1, by omega⟩
    have hwl := u2 w (by omega)
    have hws := q4 w (by omega)
    have step : f_Mo_add_b27 G m (nI n) (nI u) (moH h m A S R) = if nI (l.getD w 0) = nI n then some (none, moH h m A S R) else f_Mo_add_b44 G m (nI n) (nI u) (moH h m A S R) := by
      rw [f_Mo_add_b27_eq, if_neg (nI_nle (by omega) (by omega)), mo_g3 ha, Option.bind_some, hw, nI_pred, mo_a3 ha (by omega), Option.bind_some, q2 w (by omega)]
    by_cases he : l.getD w 0 = n
    · have hm : n ∈ l := mem_getD.mpr ⟨w, by omega, he⟩
      refine ⟨S, R 3, by rw [hb, step, he, if_pos rfl, uid], ?_, fun j _ => rfl⟩
      rw [uid, gIns_id q3 hm]; exact hl
    · have hm : n ∉ l := fun q => by
        obtain ⟨i, h1, h2⟩ := mem_getD.mp q
        rcases Nat.lt_or_ge i u with h3 | h3
        · rcases Nat.lt_or_ge i w with h4 | h4
          · have := q3 i w h4 (by omega); omega
          · exact he (by rw [show w = i by omega]; exact h2)
        · have := u3 i h3 h1; omega
      exact ⟨_, _, by rw [hb, step, if_neg (fun q => he ((nI_eq (by omega) (by omega)).mp q)), ins hm], fin hm, hS2⟩
end MO3
