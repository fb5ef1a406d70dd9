/-! NUMBERS: kind r. -/
theorem lgr1_ok : lnc lgr1 pp1 fr1 fg1 fx1 1 2 830 0 50 = true := by decide +kernel
theorem lgr1_a : lga lgr1 xhr1 fg1 fx1 1 3 2 1 35 nxr = true := by decide +kernel
theorem lgr1_k : lnkb lgr1 = true := by decide +kernel
theorem lgrq_ok : lnc lgrq ppq frq fgq fxq 0 1 597 0 50 = true := by decide +kernel
theorem lgrq_a : lga lgrq xhrq fgq fxq 0 1 1 1 35 nxr = true := by decide +kernel
theorem lgrq_k : lnkb lgrq = true := by decide +kernel
