/-- the statement on the pure machine -/
theorem am_claim : am_Claim := am_claim_law (fun L xs hL => law_ok all_ok hL xs Q0)
theorem i_vc : Claimed_1_1 ∧ Claimed_1_2 := am_claim_vc am_claim
