theorem i_vc : Claimed_1_1 ∧ Claimed_1_2 := whole_of (fun l hfl => px_main hfl)
