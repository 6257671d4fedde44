theorem kOwed_ok : kOwed := sorry
theorem i_vc : Claimed_1_1 ∧ Claimed_1_2 := i_vcO kOwed_ok
