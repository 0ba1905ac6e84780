theorem kt_X6_85 : TH RX6 85 89 0 := ⟨by decide, wl_X6_85, wn_ex0, by decide +kernel, by decide +kernel, by decide +kernel, by decide +kernel, by decide +kernel⟩
theorem kt_X6_139 : TH RX6 139 143 1 := ⟨by decide, wl_X6_139, wn_ex1, by decide +kernel, by decide +kernel, by decide +kernel, by decide +kernel, by decide +kernel⟩
theorem kt_X6_319 : TH RX6 319 323 2 := ⟨by decide, wl_X6_319, wn_ex2, by decide +kernel, by decide +kernel, by decide +kernel, by decide +kernel, by decide +kernel⟩
