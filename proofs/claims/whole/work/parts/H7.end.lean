/-! the claim -/
theorem ok_all : OKall INV := ⟨ok_feed, ok_end, ok_market, ok_bundle, ok_root, ok_purse, ok_pool, ok_depth, ok_stake, ok_add, ok_take, ok_pay, ok_levy, ok_in, ok_out, ok_passes, ok_mean, ok_quoteIn, ok_quoteOut, ok_round, ok_least, ok_route, ok_parts, ok_ring, ok_total, ok_count⟩
theorem i_vc : Claimed_1_1 ∧ Claimed_1_2 := vc_of ok_all INV_S0
