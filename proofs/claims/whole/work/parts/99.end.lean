/-- what is left: the statement on the pure machine -/
theorem am_claim : am_Claim := sorry
theorem i_vc : Claimed_1_1 ∧ Claimed_1_2 := am_claim_vc am_claim
