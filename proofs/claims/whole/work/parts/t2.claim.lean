/-! THE CLAIM -/
theorem i_vc : Claimed_1_1 ∧ Claimed_1_2 := lw_vc (lw_end x_4 x_10 x_14 x_17 x_19 x_20)
