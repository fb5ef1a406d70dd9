/-! NUMBERS: kind a. -/
theorem lga1_ok : lnc lga1 pp1 fr1 fg1 fx1 1 2 830 0 50 = true := by decide +kernel
theorem lga1_a : lga lga1 xfa1 fg1 fx1 1 3 2 0 38 nxa = true := by decide +kernel
theorem lga1_k : lnkb lga1 = true := by decide +kernel
theorem lgaq_ok : lnc lgaq ppq frq fgq fxq 0 1 597 0 50 = true := by decide +kernel
theorem lgaq_a : lga lgaq xfaq fgq fxq 0 1 1 0 38 nxa = true := by decide +kernel
theorem lgaq_k : lnkb lgaq = true := by decide +kernel
