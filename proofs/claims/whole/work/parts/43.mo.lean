section MO9
variable {h : pH} {m : Nat} {A : Nat → Nat}
theorem mo_copy_loop {G a b len : Nat} {S : Nat → Int32} {R : Nat → Nat → Int32} {g : List Nat} (ha : moA h m A) (hl : g.length = len) (hlen : len ≤ 30) (ha6 : a < 6) (hb6 : b < 6) (e1 : R 2 a = nI len) (e2 : R 2 b = nI len) :
    ∀ (d F k : Nat) (f : Nat → Int32), d < F → k + d = len → (∀ i : Nat, i < len → f (30 * a + i) = nI (g.getD i 0)) →
      f_Mo_copy_b42 G F m (nI a) (nI b) (nI k) (moH h m A S (upR R 1 f)) = some (some (.int (nI len)), moH h m A S (upR R 1 (kpF f (fun j => nI (g.getD j 0)) b k len))) := by
  have uu : ∀ f g : Nat → Int32, upR (upR R 1 f) 1 g = upR R 1 g := fun f g => funext fun i => by unfold upR; split <;> rfl
  have us : ∀ f : Nat → Int32, upR R 1 f 1 = f := fun f => if_pos rfl
  have u2 : ∀ f : Nat → Int32, upR R 1 f 2 = R 2 := fun f => if_neg (by decide)
  intro d
  induction d with
  | zero =>
    intro F k f hF hk hf
    obtain ⟨F, rfl⟩ : ∃ F', F = F' + 1 := ⟨F - 1, by omega⟩
    have e0 : kpF f (fun j => nI (g.getD j 0)) b k len = f := funext fun j => by unfold kpF; rw [if_neg (by omega)]
    rw [f_Mo_copy_b42_eq, mo_g2 ha, Option.bind_some, mo_a2 ha ha6, Option.bind_some, u2, e1, if_pos (nI_le (by omega) (by omega)), Option.bind_some, mo_a2 ha hb6, Option.bind_some, u2, e2, e0]
  | succ d ih =>
    intro F k f hF hk hf
    obtain ⟨F, rfl⟩ : ∃ F', F = F' + 1 := ⟨F - 1, by omega⟩
    have e : (30 : Int32) * nI b + nI k = nI (30 * b + k) := by
      rw [show (30 : Int32) = nI 30 from rfl, pk_mul, nI_add]
    have e3 : kpF (upd f (30 * b + k) (nI (g.getD k 0))) (fun j => nI (g.getD j 0)) b (k + 1) len = kpF f (fun j => nI (g.getD j 0)) b k len := funext fun j => by
      simp only [upd, kpF]
      by_cases h1 : j = 30 * b + k
      · rw [if_neg (by omega), if_pos h1, if_pos (by omega), h1, show 30 * b + k - 30 * b = k by omega]
      · by_cases h2 : 30 * b + (k + 1) ≤ j ∧ j < 30 * b + len
        · rw [if_pos h2, if_pos (by omega)]
        · rw [if_neg h2, if_neg h1, if_neg (by omega)]
    have hf1 : ∀ i : Nat, i < len → upd f (30 * b + k) (nI (g.getD k 0)) (30 * a + i) = nI (g.getD i 0) := fun i hi => by
      simp only [upd]
      by_cases h1 : 30 * a + i = 30 * b + k
      · rw [if_pos h1, show k = i by omega]
      · rw [if_neg h1]; exact hf i hi
    rw [f_Mo_copy_b42_eq, mo_g2 ha, Option.bind_some, mo_a2 ha ha6, Option.bind_some, u2, e1, if_neg (nI_ge (by omega) (by omega)), mo_g1 ha, Option.bind_some, cI_of (mo_is ha) (mo_numberOf ha ha6 (by omega)), us, hf k (by omega), e, mo_s1 ha (by omega), Option.bind_some, us, uu, nI_1, ih F (k + 1) _ (by omega) (by omega) hf1, e3]
theorem mo_copy_no {G : Nat} {a b : Int32} {S : Nat → Int32} {R : Nat → Nat → Int32} (ha : moA h m A) (hb : ¬ (okG a ∧ okG b)) : f_Mo_copy G m a b (moH h m A S R) = some (some (.int 0), moH h m A (upd S 0 1) R) := by
  have e : f_Mo_copy_b19 G (f_Mo_copy_b20 G) m a b m (moH h m A S R) = some (some (.int 0), moH h m A (upd S 0 1) R) := by
    rw [f_Mo_copy_b19_eq, f_Mo_copy_b20_eq, cI_of (mo_is ha) (mo_there0 ha), if_pos rfl]
  rw [f_Mo_copy_eq, cI_of rfl mo_isGraph]
  by_cases h1 : okG a
  · rw [if_neg (by rw [if_pos h1]; decide), cI_of rfl mo_isGraph, if_pos (by rw [if_neg (fun q => hb ⟨h1, q⟩)]), e]
  · rw [if_pos (by rw [if_neg h1]), e]
theorem okG_of {g : Nat} (hg : g < 6) : okG (nI g) := by
  constructor <;> rw [nI_toInt (by omega)] <;> omega
/-- copy -/
theorem mo_copy {G a b : Nat} {S : Nat → Int32} {R : Nat → Nat → Int32} {gs : Nat → List Nat} (hG : 100 ≤ G) (ha : moA h m A) (hR : moG R gs) (ha6 : a < 6) (hb6 : b < 6) :
    ∃ f1 f2 : Nat → Int32, f_Mo_copy G m (nI a) (nI b) (moH h m A S R) = some (some (.int (nI (gs a).length)), moH h m A (upd S 0 0) (upR (upR R 2 f2) 1 f1)) ∧ moG (upR (upR R 2 f2) 1 f1) (upG gs b (gs a)) := by
  obtain ⟨q1, q2, q3⟩ := hR a ha6
  have uid : upR (upR R 2 (upd (R 2) b (nI (gs a).length))) 1 (R 1) = upR R 2 (upd (R 2) b (nI (gs a).length)) := funext fun i => by
    unfold upR
    split
    · rename_i h1; subst h1; rfl
    · rfl
  have s2 : ∀ f : Nat → Int32, upR R 2 f 2 = f := fun f => if_pos rfl
  have lp := mo_copy_loop (G := G) (a := a) (b := b) (S := upd S 0 0) (R := upR R 2 (upd (R 2) b (nI (gs a).length))) (g := gs a) ha rfl q2 ha6 hb6
    (by rw [s2]; simp only [upd]; split
        · rfl
        · exact q1) (by rw [s2]; simp [upd]) (gs a).length G 0 (R 1) (by omega) (by omega) q3
  rw [uid] at lp
  refine ⟨kpF (R 1) (fun j => nI ((gs a).getD j 0)) b 0 (gs a).length, upd (R 2) b (nI (gs a).length), ?_, fun i hi => ?_⟩
  · rw [f_Mo_copy_eq, cI_of rfl mo_isGraph, if_neg (by rw [if_pos (okG_of ha6)]; decide), cI_of rfl mo_isGraph, if_neg (by rw [if_pos (okG_of hb6)]; decide), f_Mo_copy_b20_eq, cI_of (mo_is ha) (mo_there1 ha), if_neg (by decide), mo_g2 ha, Option.bind_some, Option.bind_some, mo_a2 ha ha6, Option.bind_some, q1, mo_s2 ha hb6, Option.bind_some]
    exact lp
  · have r1 : ∀ f1 f2 : Nat → Int32, upR (upR R 2 f2) 1 f1 1 = f1 := fun f1 f2 => if_pos rfl
    have r2 : ∀ f1 f2 : Nat → Int32, upR (upR R 2 f2) 1 f1 2 = f2 := fun f1 f2 => rfl
    rw [r1, r2]
    unfold upG
    by_cases e : i = b
    · subst e
      rw [if_pos rfl]
      refine ⟨by simp [upd], q2, fun k hk => ?_⟩
      unfold kpF
      rw [if_pos (by omega), show 30 * i + k - 30 * i = k by omega]
    · rw [if_neg e]
      obtain ⟨p1, p2, p3⟩ := hR i hi
      refine ⟨by simp [upd, e]; exact p1, p2, fun k hk => ?_⟩
      unfold kpF
      rw [if_neg (by omega)]
      exact p3 k hk
end MO9
