/-! THE END -/
theorem zText_ok : zText := fun _ _ hL => law_pure (show 2 ^ 40 ≤ zG by unfold zG; decide) hL zH0
theorem i_vc : Claimed_1_1 ∧ Claimed_1_2 := i_vc_open zText_ok
