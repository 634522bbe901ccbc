/-! PURE: the length of a row -/
theorem aL_of {h : pH} {a n : Nat} {f : Nat → Int32} (hf : h.2 a = .inl (0, n, .inl f)) (ha : a ∈ h.1) : aL h 0 a = some (nI n) := by
  simp [aL, oA, ha, hf]; rfl
theorem aK_of {h : pH} {a n : Nat} {f : Nat → Int64} (hf : h.2 a = .inl (1, n, .inr (.inl f))) (ha : a ∈ h.1) : aL h 1 a = some (nI n) := by
  simp [aL, oA, ha, hf]; rfl
