theorem i_vc : Claimed_1_1 ∧ Claimed_1_2 := zclaims (fun L xs hL => p_runs hL)
