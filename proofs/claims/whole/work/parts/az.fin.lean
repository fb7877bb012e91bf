/-! the claim -/
theorem i_vc : Claimed_1_1 ∧ Claimed_1_2 := et_vc (hp_v ok_village)
