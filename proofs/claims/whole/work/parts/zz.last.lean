theorem i_vc : Claimed_1_1 ∧ Claimed_1_2 := mc_claim (fun _ _ h => whole_true h)
