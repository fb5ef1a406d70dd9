/-! THE ZONE, by the table: long terms. -/
theorem lnq_l20_16 : lnd false lnq frq fgq 0 1 1 1 3 2 1 1 597 20 21 16 17 = true := by decide +kernel
theorem lnq_l20_17 : lnd false lnq frq fgq 0 1 1 1 3 2 1 1 597 20 21 17 18 = true := by decide +kernel
theorem lnq_l20_18 : lnd false lnq frq fgq 0 1 1 1 3 2 1 1 597 20 21 18 19 = true := by decide +kernel
theorem lnq_l20_19 : lnd false lnq frq fgq 0 1 1 1 3 2 1 1 597 20 21 19 20 = true := by decide +kernel
theorem lnq_l21_16 : lnd false lnq frq fgq 0 1 1 1 3 2 1 1 597 21 22 16 17 = true := by decide +kernel
theorem lnq_l21_17 : lnd false lnq frq fgq 0 1 1 1 3 2 1 1 597 21 22 17 18 = true := by decide +kernel
theorem lnq_l21_18 : lnd false lnq frq fgq 0 1 1 1 3 2 1 1 597 21 22 18 19 = true := by decide +kernel
theorem lnq_l22_16 : lnd false lnq frq fgq 0 1 1 1 3 2 1 1 597 22 23 16 17 = true := by decide +kernel
theorem lnq_l22_17 : lnd false lnq frq fgq 0 1 1 1 3 2 1 1 597 22 23 17 18 = true := by decide +kernel
theorem lnq_l22_18 : lnd false lnq frq fgq 0 1 1 1 3 2 1 1 597 22 23 18 19 = true := by decide +kernel
theorem lnq_l23_16 : lnd false lnq frq fgq 0 1 1 1 3 2 1 1 597 23 24 16 17 = true := by decide +kernel
theorem lnq_l23_17 : lnd false lnq frq fgq 0 1 1 1 3 2 1 1 597 23 24 17 18 = true := by decide +kernel
theorem lnq_l24_16 : lnd false lnq frq fgq 0 1 1 1 3 2 1 1 597 24 25 16 17 = true := by decide +kernel
theorem lnq_l24_17 : lnd false lnq frq fgq 0 1 1 1 3 2 1 1 597 24 25 17 18 = true := by decide +kernel
theorem lnq_l25_16 : lnd false lnq frq fgq 0 1 1 1 3 2 1 1 597 25 26 16 17 = true := by decide +kernel
theorem lnq_l26_16 : lnd false lnq frq fgq 0 1 1 1 3 2 1 1 597 26 27 16 17 = true := by decide +kernel
