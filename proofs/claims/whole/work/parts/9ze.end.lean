/-! ===== the owed statement ===== -/
theorem wl : wl_goal := fun L xs hL => wl_all L xs hL
theorem i_vc : Claimed_1_1 ∧ Claimed_1_2 := i_vc_open wl
