/-! THE ZONE for terms with choices under operations: contexts. -/
theorem lu1_a0 : lnu lu1 xr1 fg1 fx1 1 3 2 false 0 10 = true := by decide +kernel
theorem lu1_a10 : lnu lu1 xr1 fg1 fx1 1 3 2 false 10 16 = true := by decide +kernel
theorem lu1_a16 : lnu lu1 xr1 fg1 fx1 1 3 2 false 16 39 = true := by decide +kernel
theorem lu1_b0 : lnu lu1 xr1 fg1 fx1 1 3 2 true 0 10 = true := by decide +kernel
theorem lu1_b10 : lnu lu1 xr1 fg1 fx1 1 3 2 true 10 16 = true := by decide +kernel
theorem lu1_b16 : lnu lu1 xr1 fg1 fx1 1 3 2 true 16 39 = true := by decide +kernel
