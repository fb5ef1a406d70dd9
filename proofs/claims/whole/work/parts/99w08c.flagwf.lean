/-! NUMBERS: kind f. -/
theorem lgf1_ok : lnc lgf1 pp1 fr1 fg1 fx1 1 2 830 0 50 = true := by decide +kernel
theorem lgf1_a : lga lgf1 xhf1 fg1 fx1 1 3 2 1 34 nxf = true := by decide +kernel
theorem lgf1_k : lnkb lgf1 = true := by decide +kernel
theorem lgfq_ok : lnc lgfq ppq frq fgq fxq 0 1 597 0 50 = true := by decide +kernel
theorem lgfq_a : lga lgfq xhfq fgq fxq 0 1 1 1 34 nxf = true := by decide +kernel
theorem lgfq_k : lnkb lgfq = true := by decide +kernel
