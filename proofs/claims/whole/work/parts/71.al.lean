/-! PURE: alike, image, follows, putting, lean, of the reference -/
section ALR
variable {G : Nat} {h : pH} {m : Nat} {A : Nat → Nat} {gs : Nat → List Nat} {S : Nat → Int32} {R : Nat → Nat → Int32}
/-- what the reference's questions leave as it is -/
def KpQ (S : Nat → Int32) (R : Nat → Nat → Int32) (S2 : Nat → Int32) (R2 : Nat → Nat → Int32) : Prop := (∀ j, j ≠ 0 → j ≠ 4 → j ≠ 7 → j ≠ 9 → S2 j = S j) ∧ ∀ j, j ≠ 3 → j ≠ 5 → j ≠ 6 → j ≠ 8 → j ≠ 10 → j ≠ 11 → R2 j = R j
theorem KpQ.g {S2 : Nat → Int32} {R2 : Nat → Nat → Int32} (k : KpQ S R S2 R2) (hR : moG R gs) : moG R2 gs := moG_n hR (k.2 1 (by decide) (by decide) (by decide) (by decide) (by decide) (by decide)) (k.2 2 (by decide) (by decide) (by decide) (by decide) (by decide) (by decide))
theorem mo_alike_no {a b : Int32} (ha : moA h m A) (hb : ¬ (okG a ∧ okG b)) : f_Mo_alike G m a b (moH h m A S R) = some (some (.int 0), moH h m A (upd S 0 1) R) := by
  have e : f_Mo_alike_b19 G (f_Mo_alike_b20 G) m a b m (moH h m A S R) = some (some (.int 0), moH h m A (upd S 0 1) R) := by
    rw [f_Mo_alike_b19_eq, f_Mo_alike_b20_eq, cI_of (mo_is ha) (mo_there0 ha), if_pos rfl, f_Mo_alike_b40_eq, f_Mo_alike_b41_eq]; rfl
  rw [f_Mo_alike_eq, cI_of rfl mo_isGraph]
  by_cases h1 : okG a
  · rw [if_neg (by rw [if_pos h1]; decide), cI_of rfl mo_isGraph, if_pos (by rw [if_neg (fun q => hb ⟨h1, q⟩)]), e]
  · rw [if_pos (by rw [if_neg h1]), e]
theorem mo_alike {p t : Nat} (hG : 2 ^ 40 ≤ G) (ha : moA h m A) (hR : moG R gs) (hp : p < 6) (ht : t < 6) (aP : Asc (gs p)) (oP1 : okL (gs p)) (oT : okL (gs t)) :
    ∃ (S2 : Nat → Int32) (R2 : Nat → Nat → Int32) (b : Bool), f_Mo_alike G m (nI p) (nI t) (moH h m A S R) = some (some (.int (bI b)), moH h m A S2 R2) ∧ S2 0 = 0 ∧ KpQ S R S2 R2 ∧ SrB (gs p) (gs t) 0 b := by
  obtain ⟨S2, R2, b, a1, a2, a3, a4, a5, a6⟩ := mo_search (G := G) (w := 0) (S := upd S 0 0) hG ha hR hp ht (by omega) aP oP1 oT
  refine ⟨S2, R2, b, ?_, by rw [a2 0 (by decide) (by decide) (by decide)]; simp [upd], ⟨fun j h0 h1 h2 h3 => by rw [a2 j h1 h2 h3]; simp [upd, h0], fun j h1 _ h2 h3 h4 h5 => a3 j h1 h2 h3 h4 h5⟩, a5, fun q => ⟨(a6 q).1, (a6 q).2.elim fun ρ hρ => ⟨ρ, hρ.1⟩⟩⟩
  have a1 : f_Mo_search G m (nI p) (nI t) (0 : Int32) (moH h m A (upd S 0 0) R) = some (some (.int (bI b)), moH h m A S2 R2) := a1
  rw [f_Mo_alike_eq, cI_of rfl mo_isGraph, if_neg (by rw [if_pos (okG_of hp)]; decide), cI_of rfl mo_isGraph, if_neg (by rw [if_pos (okG_of ht)]; decide), f_Mo_alike_b20_eq, cI_of (mo_is ha) (mo_there1 ha), if_neg (by decide), cI_of (mo_is ha) a1]
  cases b
  · rw [if_pos (show bI false = 0 from rfl), f_Mo_alike_b40_eq, f_Mo_alike_b41_eq]; rfl
  · rw [if_neg (show ¬ bI true = 0 by decide), f_Mo_alike_b41_eq]; rfl
theorem mo_follows_no {a b : Int32} (ha : moA h m A) (hb : ¬ (okG a ∧ okG b)) : f_Mo_follows G m a b (moH h m A S R) = some (some (.int 0), moH h m A (upd S 0 1) R) := by
  have e : f_Mo_follows_b19 G (f_Mo_follows_b20 G) m a b m (moH h m A S R) = some (some (.int 0), moH h m A (upd S 0 1) R) := by
    rw [f_Mo_follows_b19_eq, f_Mo_follows_b20_eq, cI_of (mo_is ha) (mo_there0 ha), if_pos rfl, f_Mo_follows_b40_eq, f_Mo_follows_b41_eq]; rfl
  rw [f_Mo_follows_eq, cI_of rfl mo_isGraph]
  by_cases h1 : okG a
  · rw [if_neg (by rw [if_pos h1]; decide), cI_of rfl mo_isGraph, if_pos (by rw [if_neg (fun q => hb ⟨h1, q⟩)]), e]
  · rw [if_pos (by rw [if_neg h1]), e]
theorem mo_follows {p t : Nat} (hG : 2 ^ 40 ≤ G) (ha : moA h m A) (hR : moG R gs) (hp : p < 6) (ht : t < 6) (aP : Asc (gs p)) (oP1 : okL (gs p)) (oT : okL (gs t)) :
    ∃ (S2 : Nat → Int32) (R2 : Nat → Nat → Int32) (b : Bool), f_Mo_follows G m (nI t) (nI p) (moH h m A S R) = some (some (.int (bI b)), moH h m A S2 R2) ∧ S2 0 = 0 ∧ KpQ S R S2 R2 ∧ SrB (gs p) (gs t) 1 b := by
  obtain ⟨S2, R2, b, a1, a2, a3, a4, a5, a6⟩ := mo_search (G := G) (w := 1) (S := upd S 0 0) hG ha hR hp ht (by omega) aP oP1 oT
  refine ⟨S2, R2, b, ?_, by rw [a2 0 (by decide) (by decide) (by decide)]; simp [upd], ⟨fun j h0 h1 h2 h3 => by rw [a2 j h1 h2 h3]; simp [upd, h0], fun j h1 _ h2 h3 h4 h5 => a3 j h1 h2 h3 h4 h5⟩, a5, fun q => ⟨(a6 q).1, (a6 q).2.elim fun ρ hρ => ⟨ρ, hρ.1⟩⟩⟩
  have a1 : f_Mo_search G m (nI p) (nI t) (1 : Int32) (moH h m A (upd S 0 0) R) = some (some (.int (bI b)), moH h m A S2 R2) := a1
  rw [f_Mo_follows_eq, cI_of rfl mo_isGraph, if_neg (by rw [if_pos (okG_of ht)]; decide), cI_of rfl mo_isGraph, if_neg (by rw [if_pos (okG_of hp)]; decide), f_Mo_follows_b20_eq, cI_of (mo_is ha) (mo_there1 ha), if_neg (by decide), cI_of (mo_is ha) a1]
  cases b
  · rw [if_pos (show bI false = 0 from rfl), f_Mo_follows_b40_eq, f_Mo_follows_b41_eq]; rfl
  · rw [if_neg (show ¬ bI true = 0 by decide), f_Mo_follows_b41_eq]; rfl
/-- the index of an argument that is a node of P, or not -/
theorem mo_ixA {P : List Nat} {x : Int32} (hG : 100 ≤ G) (ha : moA h m A) (hN : moN S R (ndL P)) (hP : okL P) : (∃ k, k < (ndL P).length ∧ x = nI ((ndL P).getD k 0) ∧ f_Mo_indexOf G m x (moH h m A S R) = some (some (.int (nI k)), moH h m A S R)) ∨ ((∀ ρ, imV P ρ x = -1) ∧ f_Mo_indexOf G m x (moH h m A S R) = some (some (.int (-1)), moH h m A S R)) := by
  have hl := ndL_len (g := P)
  by_cases q : ∃ k, k < (ndL P).length ∧ nI ((ndL P).getD k 0) = x
  · obtain ⟨k, k1, k2⟩ := q
    exact Or.inl ⟨k, k1, k2.symm, by rw [← k2]; exact mo_index hG ha hN hl ndL_asc ndL_sm k1⟩
  · refine Or.inr ⟨fun ρ => ?_, mo_index_no hG ha hN hl (fun k hk e => q ⟨k, hk, e⟩)⟩
    unfold imV
    refine if_neg (fun h1 => q ?_)
    obtain ⟨j, j1, rfl⟩ := ok_nI (n := 46) (x := x) (by omega) (by omega)
    rw [nI_toInt (by omega), Int.toNat_natCast] at h1
    obtain ⟨k, k1, k2⟩ := mem_getD.mp (ndL_mem.mpr ⟨⟨by omega, by omega⟩, h1.2⟩ : j ∈ ndL P)
    exact ⟨k, k1, by rw [k2]⟩
theorem imV_at {P : List Nat} {ρ : Nat → Nat} {k : Nat} (hk : k < (ndL P).length) : imV P ρ (nI ((ndL P).getD k 0)) = nI (ρ ((ndL P).getD k 0 - 40)) := by
  have n := nd_at hk
  unfold imV
  rw [nI_toInt (by omega), Int.toNat_natCast, if_pos ⟨⟨by omega, by omega⟩, n.2⟩]
theorem mo_image_no {a b x : Int32} (ha : moA h m A) (hb : ¬ (okG a ∧ okG b)) : f_Mo_image G m a b x (moH h m A S R) = some (some (.int 0), moH h m A (upd S 0 1) R) := by
  have e : f_Mo_image_b19 G (f_Mo_image_b20 G) m a b x m (moH h m A S R) = some (some (.int 0), moH h m A (upd S 0 1) R) := by
    rw [f_Mo_image_b19_eq, f_Mo_image_b20_eq, cI_of (mo_is ha) (mo_there0 ha), if_pos rfl, f_Mo_image_b44_eq, mo_g0 ha, Option.bind_some, if_neg (by simp [upd]), f_Mo_image_b56_eq]
  rw [f_Mo_image_eq, cI_of rfl mo_isGraph]
  by_cases h1 : okG a
  · rw [if_neg (by rw [if_pos h1]; decide), cI_of rfl mo_isGraph, if_pos (by rw [if_neg (fun q => hb ⟨h1, q⟩)]), e]
  · rw [if_pos (by rw [if_neg h1]), e]
theorem mo_image {p t : Nat} {x : Int32} (hG : 2 ^ 40 ≤ G) (ha : moA h m A) (hR : moG R gs) (hp : p < 6) (ht : t < 6) (aP : Asc (gs p)) (oP1 : okL (gs p)) (oT : okL (gs t)) :
    ∃ (S2 : Nat → Int32) (R2 : Nat → Nat → Int32) (v : Int32), f_Mo_image G m (nI p) (nI t) x (moH h m A S R) = some (some (.int v), moH h m A S2 R2) ∧ S2 0 = 0 ∧ KpQ S R S2 R2 ∧ ImA (gs p) (gs t) 0 x v := by
  obtain ⟨S2, R2, b, a1, a2, a3, a4, a5, a6⟩ := mo_search (G := G) (w := 0) (S := upd S 0 0) hG ha hR hp ht (by omega) aP oP1 oT
  have s0 : S2 0 = 0 := by rw [a2 0 (by decide) (by decide) (by decide)]; simp [upd]
  have kq : KpQ S R S2 R2 := ⟨fun j h0 h1 h2 h3 => by rw [a2 j h1 h2 h3]; simp [upd, h0], fun j h1 _ h2 h3 h4 h5 => a3 j h1 h2 h3 h4 h5⟩
  have a1 : f_Mo_search G m (nI p) (nI t) (0 : Int32) (moH h m A (upd S 0 0) R) = some (some (.int (bI b)), moH h m A S2 R2) := a1
  have e44 : f_Mo_image_b44 G m (moH h m A S2 R2) = some (some (.int (-1)), moH h m A S2 R2) := by
    rw [f_Mo_image_b44_eq, mo_g0 ha, Option.bind_some, s0, if_pos (by decide), f_Mo_image_b56_eq]
  have l6 := ndL_len (g := gs p)
  cases b
  · refine ⟨S2, R2, -1, ?_, s0, kq, Or.inl ⟨a5 rfl, rfl⟩⟩
    rw [f_Mo_image_eq, cI_of rfl mo_isGraph, if_neg (by rw [if_pos (okG_of hp)]; decide), cI_of rfl mo_isGraph, if_neg (by rw [if_pos (okG_of ht)]; decide), f_Mo_image_b20_eq, cI_of (mo_is ha) (mo_there1 ha), if_neg (by decide), cI_of (mo_is ha) a1, if_pos (show bI false = 0 from rfl), e44]
  · obtain ⟨c0, ρ, c1, c2, c3⟩ := a6 rfl
    rcases mo_ixA (G := G) (x := x) (by omega) ha a4 oP1 with ⟨k, k1, k2, k3⟩ | ⟨k1, k2⟩
    · refine ⟨S2, R2, imV (gs p) ρ x, ?_, s0, kq, Or.inr ⟨c0, ρ, c1, c2, rfl⟩⟩
      rw [f_Mo_image_eq, cI_of rfl mo_isGraph, if_neg (by rw [if_pos (okG_of hp)]; decide), cI_of rfl mo_isGraph, if_neg (by rw [if_pos (okG_of ht)]; decide), f_Mo_image_b20_eq, cI_of (mo_is ha) (mo_there1 ha), if_neg (by decide), cI_of (mo_is ha) a1, if_neg (show ¬ bI true = 0 by decide), cI_of (mo_is ha) k3, if_pos (nI_pos' (by omega)), mo_g11 ha, Option.bind_some, cI_of (mo_is ha) k3, mo_a11 ha (by omega), Option.bind_some, c3 k k1, k2, imV_at k1]
    · refine ⟨S2, R2, -1, ?_, s0, kq, Or.inr ⟨c0, ρ, c1, c2, (k1 ρ).symm⟩⟩
      rw [f_Mo_image_eq, cI_of rfl mo_isGraph, if_neg (by rw [if_pos (okG_of hp)]; decide), cI_of rfl mo_isGraph, if_neg (by rw [if_pos (okG_of ht)]; decide), f_Mo_image_b20_eq, cI_of (mo_is ha) (mo_there1 ha), if_neg (by decide), cI_of (mo_is ha) a1, if_neg (show ¬ bI true = 0 by decide), cI_of (mo_is ha) k2, if_neg (by decide), e44]
theorem mo_putting_no {a b x : Int32} (ha : moA h m A) (hb : ¬ (okG a ∧ okG b)) : f_Mo_putting G m a b x (moH h m A S R) = some (some (.int 0), moH h m A (upd S 0 1) R) := by
  have e : f_Mo_putting_b19 G (f_Mo_putting_b20 G) m a b x m (moH h m A S R) = some (some (.int 0), moH h m A (upd S 0 1) R) := by
    rw [f_Mo_putting_b19_eq, f_Mo_putting_b20_eq, cI_of (mo_is ha) (mo_there0 ha), if_pos rfl, f_Mo_putting_b44_eq, mo_g0 ha, Option.bind_some, if_neg (by simp [upd]), f_Mo_putting_b56_eq]
  rw [f_Mo_putting_eq, cI_of rfl mo_isGraph]
  by_cases h1 : okG a
  · rw [if_neg (by rw [if_pos h1]; decide), cI_of rfl mo_isGraph, if_pos (by rw [if_neg (fun q => hb ⟨h1, q⟩)]), e]
  · rw [if_pos (by rw [if_neg h1]), e]
theorem mo_putting {p t : Nat} {x : Int32} (hG : 2 ^ 40 ≤ G) (ha : moA h m A) (hR : moG R gs) (hp : p < 6) (ht : t < 6) (aP : Asc (gs p)) (oP1 : okL (gs p)) (oT : okL (gs t)) :
    ∃ (S2 : Nat → Int32) (R2 : Nat → Nat → Int32) (v : Int32), f_Mo_putting G m (nI t) (nI p) x (moH h m A S R) = some (some (.int v), moH h m A S2 R2) ∧ S2 0 = 0 ∧ KpQ S R S2 R2 ∧ ImA (gs p) (gs t) 1 x v := by
  obtain ⟨S2, R2, b, a1, a2, a3, a4, a5, a6⟩ := mo_search (G := G) (w := 1) (S := upd S 0 0) hG ha hR hp ht (by omega) aP oP1 oT
  have s0 : S2 0 = 0 := by rw [a2 0 (by decide) (by decide) (by decide)]; simp [upd]
  have kq : KpQ S R S2 R2 := ⟨fun j h0 h1 h2 h3 => by rw [a2 j h1 h2 h3]; simp [upd, h0], fun j h1 _ h2 h3 h4 h5 => a3 j h1 h2 h3 h4 h5⟩
  have a1 : f_Mo_search G m (nI p) (nI t) (1 : Int32) (moH h m A (upd S 0 0) R) = some (some (.int (bI b)), moH h m A S2 R2) := a1
  have e44 : f_Mo_putting_b44 G m (moH h m A S2 R2) = some (some (.int (-1)), moH h m A S2 R2) := by
    rw [f_Mo_putting_b44_eq, mo_g0 ha, Option.bind_some, s0, if_pos (by decide), f_Mo_putting_b56_eq]
  have l6 := ndL_len (g := gs p)
  cases b
  · refine ⟨S2, R2, -1, ?_, s0, kq, Or.inl ⟨a5 rfl, rfl⟩⟩
    rw [f_Mo_putting_eq, cI_of rfl mo_isGraph, if_neg (by rw [if_pos (okG_of ht)]; decide), cI_of rfl mo_isGraph, if_neg (by rw [if_pos (okG_of hp)]; decide), f_Mo_putting_b20_eq, cI_of (mo_is ha) (mo_there1 ha), if_neg (by decide), cI_of (mo_is ha) a1, if_pos (show bI false = 0 from rfl), e44]
  · obtain ⟨c0, ρ, c1, c2, c3⟩ := a6 rfl
    rcases mo_ixA (G := G) (x := x) (by omega) ha a4 oP1 with ⟨k, k1, k2, k3⟩ | ⟨k1, k2⟩
    · refine ⟨S2, R2, imV (gs p) ρ x, ?_, s0, kq, Or.inr ⟨c0, ρ, c1, c2, rfl⟩⟩
      rw [f_Mo_putting_eq, cI_of rfl mo_isGraph, if_neg (by rw [if_pos (okG_of ht)]; decide), cI_of rfl mo_isGraph, if_neg (by rw [if_pos (okG_of hp)]; decide), f_Mo_putting_b20_eq, cI_of (mo_is ha) (mo_there1 ha), if_neg (by decide), cI_of (mo_is ha) a1, if_neg (show ¬ bI true = 0 by decide), cI_of (mo_is ha) k3, if_pos (nI_pos' (by omega)), mo_g11 ha, Option.bind_some, cI_of (mo_is ha) k3, mo_a11 ha (by omega), Option.bind_some, c3 k k1, k2, imV_at k1]
    · refine ⟨S2, R2, -1, ?_, s0, kq, Or.inr ⟨c0, ρ, c1, c2, (k1 ρ).symm⟩⟩
      rw [f_Mo_putting_eq, cI_of rfl mo_isGraph, if_neg (by rw [if_pos (okG_of ht)]; decide), cI_of rfl mo_isGraph, if_neg (by rw [if_pos (okG_of hp)]; decide), f_Mo_putting_b20_eq, cI_of (mo_is ha) (mo_there1 ha), if_neg (by decide), cI_of (mo_is ha) a1, if_neg (show ¬ bI true = 0 by decide), cI_of (mo_is ha) k2, if_neg (by decide), e44]
theorem mo_lean_no {x1 : Int32} (ha : moA h m A) (hg : ¬ okG x1) : f_Mo_lean G m x1 (moH h m A S R) = some (some (.int 0), moH h m A (upd S 0 1) R) := by
  rw [f_Mo_lean_eq, cI_of rfl mo_isGraph, if_neg (show ¬ (0 ≤ x1.toInt ∧ x1.toInt < 6) from hg), cI_of (mo_is ha) (mo_there0 ha), if_pos rfl, f_Mo_lean_b25_eq, f_Mo_lean_b26_eq]; rfl
theorem mo_lean {p : Nat} (hG : 2 ^ 40 ≤ G) (ha : moA h m A) (hR : moG R gs) (hp : p < 6) (aP : Asc (gs p)) (oP1 : okL (gs p)) :
    ∃ (S2 : Nat → Int32) (R2 : Nat → Nat → Int32) (b : Bool), f_Mo_lean G m (nI p) (moH h m A S R) = some (some (.int (bI (!b))), moH h m A S2 R2) ∧ S2 0 = 0 ∧ KpQ S R S2 R2 ∧ SrB (gs p) (gs p) 2 b := by
  obtain ⟨S2, R2, b, a1, a2, a3, a4, a5, a6⟩ := mo_search (G := G) (w := 2) (S := upd S 0 0) hG ha hR hp hp (by omega) aP oP1 oP1
  refine ⟨S2, R2, b, ?_, by rw [a2 0 (by decide) (by decide) (by decide)]; simp [upd], ⟨fun j h0 h1 h2 h3 => by rw [a2 j h1 h2 h3]; simp [upd, h0], fun j h1 _ h2 h3 h4 h5 => a3 j h1 h2 h3 h4 h5⟩, a5, fun q => ⟨(a6 q).1, (a6 q).2.elim fun ρ hρ => ⟨ρ, hρ.1⟩⟩⟩
  have a1 : f_Mo_search G m (nI p) (nI p) (2 : Int32) (moH h m A (upd S 0 0) R) = some (some (.int (bI b)), moH h m A S2 R2) := a1
  rw [f_Mo_lean_eq, cI_of rfl mo_isGraph, if_pos (okG_of hp), cI_of (mo_is ha) (mo_there1 ha), if_neg (by decide), cI_of (mo_is ha) a1]
  cases b
  · rw [if_pos (show bI false = 0 from rfl), f_Mo_lean_b26_eq]; rfl
  · rw [if_neg (show ¬ bI true = 0 by decide), f_Mo_lean_b25_eq, f_Mo_lean_b26_eq]; rfl
end ALR
