/-! WHAT IS OWED -/
theorem i_vc : Claimed_1_1 ∧ Claimed_1_2 := am_claim (am_goal_of pu_holds)
