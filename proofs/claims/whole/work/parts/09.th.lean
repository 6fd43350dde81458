set_option maxRecDepth 100000 in
theorem th_RX2_27_29 : TH RX2 27 29 0 := ⟨by decide +kernel, by decide +kernel, gw_in 257 (by decide +kernel) rfl, gw_in 51 (by decide +kernel) rfl, gw_all (by decide +kernel), by decide +kernel, by decide +kernel⟩
set_option maxRecDepth 100000 in
theorem th_RX2_44_46 : TH RX2 44 46 2 := ⟨by decide +kernel, by decide +kernel, gw_in 345 (by decide +kernel) rfl, gw_in 52 (by decide +kernel) rfl, gw_all (by decide +kernel), by decide +kernel, by decide +kernel⟩
set_option maxRecDepth 100000 in
theorem th_RX2_77_79 : TH RX2 77 79 1 := ⟨by decide +kernel, by decide +kernel, gw_in 413 (by decide +kernel) rfl, gw_in 54 (by decide +kernel) rfl, gw_all (by decide +kernel), by decide +kernel, by decide +kernel⟩
set_option maxRecDepth 100000 in
theorem th_RX2_98_100 : TH RX2 98 100 3 := ⟨by decide +kernel, by decide +kernel, gw_in 471 (by decide +kernel) rfl, gw_in 57 (by decide +kernel) rfl, gw_all (by decide +kernel), by decide +kernel, by decide +kernel⟩
