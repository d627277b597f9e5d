/-! The claim. -/
theorem i_vc : Claimed_1_1 ∧ Claimed_1_2 := gs_whole iv_pure
