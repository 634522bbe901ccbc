section MO4
variable {h : pH} {m : Nat} {A : Nat → Nat}
/-- facts of graph g out of the made row, from k on -/
def kpF (f md : Nat → Int32) (g k len : Nat) : Nat → Int32 := fun j => if 30 * g + k ≤ j ∧ j < 30 * g + len then md (j - 30 * g) else f j
theorem mo_keep_loop {G g len : Nat} {S : Nat → Int32} {R : Nat → Nat → Int32} (ha : moA h m A) (hS : S 4 = nI len) (hlen : len ≤ 30) (hg : g < 6) :
    ∀ (d F k : Nat) (f : Nat → Int32), d < F → k + d = len →
      f_Mo_keep_b2 G F m (nI g) (nI k) (moH h m A S (upR R 1 f)) = some (none, moH h m A S (upR (upR R 1 (kpF f (R 3) g k len)) 2 (upd (R 2) g (nI len)))) := by
  have uu : ∀ f g : Nat → Int32, upR (upR R 1 f) 1 g = upR R 1 g := fun f g => funext fun i => by unfold upR; split <;> rfl
  have us : ∀ f : Nat → Int32, upR R 1 f 1 = f := fun f => if_pos rfl
  have u3 : ∀ f : Nat → Int32, upR R 1 f 3 = R 3 := fun f => if_neg (by decide)
  have u2 : ∀ f : Nat → Int32, upR R 1 f 2 = R 2 := fun f => if_neg (by decide)
  intro d
  induction d with
  | zero =>
    intro F k f hF hk
    obtain ⟨F, rfl⟩ : ∃ F', F = F' + 1 := ⟨F - 1, by omega⟩
    have e0 : kpF f (R 3) g k len = f := funext fun j => by unfold kpF; rw [if_neg (by omega)]
    rw [f_Mo_keep_b2_eq, mo_g4 ha, Option.bind_some, hS, if_pos (nI_le (by omega) (by omega)), mo_g2 ha, Option.bind_some, Option.bind_some, mo_s2 ha hg, Option.bind_some, u2, e0]
  | succ d ih =>
    intro F k f hF hk
    obtain ⟨F, rfl⟩ : ∃ F', F = F' + 1 := ⟨F - 1, by omega⟩
    have e : (30 : Int32) * nI g + nI k = nI (30 * g + k) := by
      rw [show (30 : Int32) = nI 30 from rfl, pk_mul, nI_add]
    have e1 : kpF (upd f (30 * g + k) (R 3 k)) (R 3) g (k + 1) len = kpF f (R 3) g k len := funext fun j => by
      simp only [upd, kpF]
      by_cases h1 : j = 30 * g + k
      · rw [if_neg (by omega), if_pos h1, if_pos (by omega), h1, show 30 * g + k - 30 * g = k by omega]
      · by_cases h2 : 30 * g + (k + 1) ≤ j ∧ j < 30 * g + len
        · rw [if_pos h2, if_pos (by omega)]
        · rw [if_neg h2, if_neg h1, if_neg (by omega)]
    rw [f_Mo_keep_b2_eq, mo_g4 ha, Option.bind_some, hS, if_neg (nI_ge (by omega) (by omega)), mo_g1 ha, Option.bind_some, mo_g3 ha, Option.bind_some, mo_a3 ha (by omega), Option.bind_some, e, mo_s1 ha (by omega), Option.bind_some, us, u3, uu, nI_1, ih F (k + 1) _ (by omega) (by omega), e1]
/-- keep(g): graph g becomes what was made -/
theorem mo_keep {G g : Nat} {S : Nat → Int32} {R : Nat → Nat → Int32} {l : List Nat} {gs : Nat → List Nat} (hG : 100 ≤ G) (ha : moA h m A) (hl : moM S R l) (hR : moG R gs) (hlen : l.length ≤ 30) (hg : g < 6) :
    ∃ f1 f2 : Nat → Int32, f_Mo_keep G m (nI g) (moH h m A S R) = some (none, moH h m A S (upR (upR R 1 f1) 2 f2)) ∧ moG (upR (upR R 1 f1) 2 f2) (fun i => if i = g then l else gs i) := by
  obtain ⟨q1, q2, q3, q4⟩ := hl
  have uid : upR R 1 (R 1) = R := funext fun i => by unfold upR; split <;> simp_all
  have h1 := mo_keep_loop (G := G) (R := R) ha q1 hlen hg l.length G 0 (R 1) (by omega) (by omega)
  rw [uid] at h1
  refine ⟨_, _, by rw [f_Mo_keep_eq]; exact h1, fun i hi => ?_⟩
  have r2 : ∀ f1 f2 : Nat → Int32, upR (upR R 1 f1) 2 f2 2 = f2 := fun f1 f2 => if_pos rfl
  have r1 : ∀ f1 f2 : Nat → Int32, upR (upR R 1 f1) 2 f2 1 = f1 := fun f1 f2 => rfl
  rw [r2, r1]
  dsimp only
  by_cases e : i = g
  · subst e
    rw [if_pos rfl]
    refine ⟨by simp [upd], hlen, fun k hk => ?_⟩
    unfold kpF
    rw [if_pos (by omega), show 30 * i + k - 30 * i = k by omega]
    exact q2 k hk
  · rw [if_neg e]
    obtain ⟨p1, p2, p3⟩ := hR i hi
    refine ⟨by simp [upd, e]; exact p1, p2, fun k hk => ?_⟩
    unfold kpF
    rw [if_neg (by omega)]
    exact p3 k hk
end MO4
