/-! the owed statement -/
theorem i_vc : Claimed_1_1 ∧ Claimed_1_2 := mp_claim mp_pure
