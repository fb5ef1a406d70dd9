/-! BY NATURE, long terms. -/
theorem nb1_l20_16 : lnd false nb1 fr1 fg1 1 2 3 2 2 2 2 2 887 20 21 16 17 = true := by decide +kernel
theorem nb1_l20_17 : lnd false nb1 fr1 fg1 1 2 3 2 2 2 2 2 887 20 21 17 18 = true := by decide +kernel
theorem nb1_l20_18 : lnd false nb1 fr1 fg1 1 2 3 2 2 2 2 2 887 20 21 18 19 = true := by decide +kernel
theorem nb1_l20_19 : lnd false nb1 fr1 fg1 1 2 3 2 2 2 2 2 887 20 21 19 20 = true := by decide +kernel
theorem nb1_l21_16 : lnd false nb1 fr1 fg1 1 2 3 2 2 2 2 2 887 21 22 16 17 = true := by decide +kernel
theorem nb1_l21_17 : lnd false nb1 fr1 fg1 1 2 3 2 2 2 2 2 887 21 22 17 18 = true := by decide +kernel
theorem nb1_l21_18 : lnd false nb1 fr1 fg1 1 2 3 2 2 2 2 2 887 21 22 18 19 = true := by decide +kernel
theorem nb1_l22_16 : lnd false nb1 fr1 fg1 1 2 3 2 2 2 2 2 887 22 23 16 17 = true := by decide +kernel
theorem nb1_l22_17 : lnd false nb1 fr1 fg1 1 2 3 2 2 2 2 2 887 22 23 17 18 = true := by decide +kernel
theorem nb1_l22_18 : lnd false nb1 fr1 fg1 1 2 3 2 2 2 2 2 887 22 23 18 19 = true := by decide +kernel
theorem nb1_l23_16 : lnd false nb1 fr1 fg1 1 2 3 2 2 2 2 2 887 23 24 16 17 = true := by decide +kernel
theorem nb1_l23_17 : lnd false nb1 fr1 fg1 1 2 3 2 2 2 2 2 887 23 24 17 18 = true := by decide +kernel
theorem nb1_l24_16 : lnd false nb1 fr1 fg1 1 2 3 2 2 2 2 2 887 24 25 16 17 = true := by decide +kernel
theorem nb1_l24_17 : lnd false nb1 fr1 fg1 1 2 3 2 2 2 2 2 887 24 25 17 18 = true := by decide +kernel
theorem nb1_l25_16 : lnd false nb1 fr1 fg1 1 2 3 2 2 2 2 2 887 25 26 16 17 = true := by decide +kernel
theorem nb1_l26_16 : lnd false nb1 fr1 fg1 1 2 3 2 2 2 2 2 887 26 27 16 17 = true := by decide +kernel
theorem nb1_all {c m : Nat} (m6 : 6 ≤ m) (h20 : 20 ≤ c) (h47 : c ≤ 47) (hc : c + 2 * m ≤ 58) {s : T6} (hs : s ∈ lng nb1 c) : (5 ≤ 58 - 2 * m - c → dpD false fr1 fg1 0 1 2 3 2 2 2 2 s.2.2.1 s.2.2.2.1 2 s.2.2.2.2.1 s.2.2.2.2.2 s.1 (58 - 2 * m - c) m ≤ 887) ∧ dpD false fr1 fg1 5 1 2 3 2 2 2 2 s.2.2.1 s.2.2.2.1 2 s.2.2.2.2.1 s.2.2.2.2.2 s.1 0 m ≤ 887 := by
  by_cases c30 : c < 30
  · skip
    by_cases q20_30 : c < 25
    · skip
      by_cases q20_25 : c < 22
      · skip
        by_cases q20_22 : c < 21
        · skip
          have e : c = 20 := by omega
          subst e
          by_cases m15 : m < 16
          · exact lnd_get nb1_d20 (Nat.le_refl _) (by decide) m6 m15 hc hs
          by_cases p16 : m = 16
          · subst p16; exact lnd_get nb1_l20_16 (Nat.le_refl _) (by decide) (Nat.le_refl _) (by decide) hc hs
          by_cases p17 : m = 17
          · subst p17; exact lnd_get nb1_l20_17 (Nat.le_refl _) (by decide) (Nat.le_refl _) (by decide) hc hs
          by_cases p18 : m = 18
          · subst p18; exact lnd_get nb1_l20_18 (Nat.le_refl _) (by decide) (Nat.le_refl _) (by decide) hc hs
          have p19 : m = 19 := by omega
          subst p19; exact lnd_get nb1_l20_19 (Nat.le_refl _) (by decide) (Nat.le_refl _) (by decide) hc hs
        · skip
          have e : c = 21 := by omega
          subst e
          by_cases m15 : m < 16
          · exact lnd_get nb1_d21 (Nat.le_refl _) (by decide) m6 m15 hc hs
          by_cases p16 : m = 16
          · subst p16; exact lnd_get nb1_l21_16 (Nat.le_refl _) (by decide) (Nat.le_refl _) (by decide) hc hs
          by_cases p17 : m = 17
          · subst p17; exact lnd_get nb1_l21_17 (Nat.le_refl _) (by decide) (Nat.le_refl _) (by decide) hc hs
          have p18 : m = 18 := by omega
          subst p18; exact lnd_get nb1_l21_18 (Nat.le_refl _) (by decide) (Nat.le_refl _) (by decide) hc hs
      · skip
        by_cases q22_25 : c < 23
        · skip
          have e : c = 22 := by omega
          subst e
          by_cases m15 : m < 16
          · exact lnd_get nb1_d22 (Nat.le_refl _) (by decide) m6 m15 hc hs
          by_cases p16 : m = 16
          · subst p16; exact lnd_get nb1_l22_16 (Nat.le_refl _) (by decide) (Nat.le_refl _) (by decide) hc hs
          by_cases p17 : m = 17
          · subst p17; exact lnd_get nb1_l22_17 (Nat.le_refl _) (by decide) (Nat.le_refl _) (by decide) hc hs
          have p18 : m = 18 := by omega
          subst p18; exact lnd_get nb1_l22_18 (Nat.le_refl _) (by decide) (Nat.le_refl _) (by decide) hc hs
        · skip
          by_cases q23_25 : c < 24
          · skip
            have e : c = 23 := by omega
            subst e
            by_cases m15 : m < 16
            · exact lnd_get nb1_d23 (Nat.le_refl _) (by decide) m6 m15 hc hs
            by_cases p16 : m = 16
            · subst p16; exact lnd_get nb1_l23_16 (Nat.le_refl _) (by decide) (Nat.le_refl _) (by decide) hc hs
            have p17 : m = 17 := by omega
            subst p17; exact lnd_get nb1_l23_17 (Nat.le_refl _) (by decide) (Nat.le_refl _) (by decide) hc hs
          · skip
            have e : c = 24 := by omega
            subst e
            by_cases m15 : m < 16
            · exact lnd_get nb1_d24 (Nat.le_refl _) (by decide) m6 m15 hc hs
            by_cases p16 : m = 16
            · subst p16; exact lnd_get nb1_l24_16 (Nat.le_refl _) (by decide) (Nat.le_refl _) (by decide) hc hs
            have p17 : m = 17 := by omega
            subst p17; exact lnd_get nb1_l24_17 (Nat.le_refl _) (by decide) (Nat.le_refl _) (by decide) hc hs
    · skip
      by_cases q25_30 : c < 27
      · skip
        by_cases q25_27 : c < 26
        · skip
          have e : c = 25 := by omega
          subst e
          by_cases m15 : m < 16
          · exact lnd_get nb1_d25 (Nat.le_refl _) (by decide) m6 m15 hc hs
          have p16 : m = 16 := by omega
          subst p16; exact lnd_get nb1_l25_16 (Nat.le_refl _) (by decide) (Nat.le_refl _) (by decide) hc hs
        · skip
          have e : c = 26 := by omega
          subst e
          by_cases m15 : m < 16
          · exact lnd_get nb1_d26 (Nat.le_refl _) (by decide) m6 m15 hc hs
          have p16 : m = 16 := by omega
          subst p16; exact lnd_get nb1_l26_16 (Nat.le_refl _) (by decide) (Nat.le_refl _) (by decide) hc hs
      · skip
        by_cases q27_30 : c < 28
        · skip
          have e : c = 27 := by omega
          subst e
          exact lnd_get nb1_d27 (Nat.le_refl _) (by decide) m6 (by omega) hc hs
        · skip
          by_cases q28_30 : c < 29
          · skip
            have e : c = 28 := by omega
            subst e
            exact lnd_get nb1_d28 (Nat.le_refl _) (by decide) m6 (by omega) hc hs
          · skip
            have e : c = 29 := by omega
            subst e
            exact lnd_get nb1_d29 (Nat.le_refl _) (by decide) m6 (by omega) hc hs
  · by_cases c36 : c < 36
    · exact lnd_get nb1_d30 (by omega) c36 m6 (by omega) hc hs
    · exact lnd_get nb1_d36 (by omega) (by omega) m6 (by omega) hc hs
