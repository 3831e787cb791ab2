/-! the claim -/
theorem i_vc : Claimed_1_1 ∧ Claimed_1_2 := mp_claim (fun L xs hL => mr_all L xs hL)
