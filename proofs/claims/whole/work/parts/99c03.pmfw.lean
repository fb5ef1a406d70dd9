/-! READING: a term goes forward. -/
section PmSp2
variable {tx : Nat → Int} {ln : Nat}
theorem pM_fw : ∀ (r : Nat) (e : List (Nat × Int × Nat)) (p : Nat), p ≤ ln → FW ln p (pM tx ln r e p)
  | 0, e, p, hp => by
    show FW ln p (if 97 ≤ chr tx ln p ∧ chr tx ln p ≤ 100 then _ else _)
    by_cases c1 : 97 ≤ chr tx ln p ∧ chr tx ln p ≤ 100
    · have : p < ln := chr_lt (tx := tx) (by omega)
      rw [if_pos c1]; exact fw_some (by omega) (by omega)
    rw [if_neg c1]
    by_cases c3 : chr tx ln p = 123
    · have := chr_is c3 (by decide)
      rw [if_pos c3]
      by_cases c4 : chr tx ln (p + 1) = 125
      · have := chr_is c4 (by decide)
        rw [if_pos c4]; exact fw_some (by omega) (by omega)
      · rw [if_neg c4]; exact fw_none (by omega) (by omega)
    rw [if_neg c3]
    exact fw_none (by omega) hp
  | r + 1, e, p, hp => by
    show FW ln p (if 97 ≤ chr tx ln p ∧ chr tx ln p ≤ 100 then _ else _)
    by_cases c1 : 97 ≤ chr tx ln p ∧ chr tx ln p ≤ 100
    · have : p < ln := chr_lt (tx := tx) (by omega)
      rw [if_pos c1]; exact fw_some (by omega) (by omega)
    rw [if_neg c1]
    by_cases c3 : chr tx ln p = 123
    · have := chr_is c3 (by decide)
      rw [if_pos c3]
      by_cases c4 : chr tx ln (p + 1) = 125
      · have := chr_is c4 (by decide)
        rw [if_pos c4]; exact fw_some (by omega) (by omega)
      · rw [if_neg c4]
        refine FW.thn ((pFs_fw (by decide) (fun q hq => ?_) 3 0 (p + 1) (by omega)).up (by omega)) (fun l q _ h1 h2 => fw_some h1 h2)
        by_cases c5 : chr tx ln q = 61
        · have := chr_is c5 (by decide)
          rw [if_pos c5]
          exact (pM_fw r e (q + 1) (by omega)).up (by omega)
        · rw [if_neg c5]; exact fw_none (Nat.le_refl _) hq
    rw [if_neg c3]
    by_cases c5 : chr tx ln p = 92
    · have := chr_is c5 (by decide)
      rw [if_pos c5]
      by_cases c9 : 97 ≤ chr tx ln (p + 1) ∧ chr tx ln (p + 1) ≤ 100
      · have : p + 1 < ln := chr_lt (tx := tx) (by omega)
        rw [if_pos c9]
        by_cases c10 : chr tx ln (p + 2) = 58
        · have := chr_is c10 (by decide)
          rw [if_pos c10]
          refine FW.thn ((pT_fw r _ (p + 3) (by omega)).up (by omega)) (fun a q _ h1 h2 => ?_)
          by_cases c6 : chr tx ln q = 46
          · have := chr_is c6 (by decide)
            rw [if_pos c6]
            refine FW.thn ((pM_fw r _ (q + 1) (by omega)).up (by omega)) (fun b q' _ h3 h4 => fw_some h3 h4)
          · rw [if_neg c6]; exact fw_none (by omega) h2
        · rw [if_neg c10]; exact fw_none (by omega) (by omega)
      · rw [if_neg c9]; exact fw_none (by omega) (by omega)
    rw [if_neg c5]
    by_cases c6 : chr tx ln p = 40
    · have := chr_is c6 (by decide)
      rw [if_pos c6]
      refine FW.thn ((pM_fw r e (p + 1) (by omega)).up (by omega)) (fun a q _ h1 h2 => ?_)
      refine FW.thn ((pM_fw r e q (by omega)).up (by omega)) (fun b q' _ h3 h4 => ?_)
      by_cases c7 : chr tx ln q' = 41
      · have := chr_is c7 (by decide)
        rw [if_pos c7]; exact fw_some (by omega) (by omega)
      · rw [if_neg c7]; exact fw_none (by omega) h4
    rw [if_neg c6]
    by_cases c7 : chr tx ln p = 47
    · have := chr_is c7 (by decide)
      rw [if_pos c7]
      by_cases c9 : 80 ≤ chr tx ln (p + 1) ∧ chr tx ln (p + 1) ≤ 83
      · have : p + 1 < ln := chr_lt (tx := tx) (by omega)
        rw [if_pos c9]
        by_cases c10 : chr tx ln (p + 2) = 58
        · have := chr_is c10 (by decide)
          rw [if_pos c10]
          refine FW.thn ((pT_fw r _ (p + 3) (by omega)).up (by omega)) (fun a q _ h1 h2 => ?_)
          by_cases c6 : chr tx ln q = 46
          · have := chr_is c6 (by decide)
            rw [if_pos c6]
            refine FW.thn ((pM_fw r _ (q + 1) (by omega)).up (by omega)) (fun b q' _ h3 h4 => fw_some h3 h4)
          · rw [if_neg c6]; exact fw_none (by omega) h2
        · rw [if_neg c10]; exact fw_none (by omega) (by omega)
      · rw [if_neg c9]; exact fw_none (by omega) (by omega)
    rw [if_neg c7]
    by_cases c8 : chr tx ln p = 64
    · have := chr_is c8 (by decide)
      rw [if_pos c8]
      refine FW.thn ((pM_fw r e (p + 1) (by omega)).up (by omega)) (fun a q _ h1 h2 => ?_)
      refine FW.thn ((pT_fw r _ q (by omega)).up (by omega)) (fun b q' _ h3 h4 => fw_some (by omega) h4)
    rw [if_neg c8]
    by_cases c9 : chr tx ln p = 46
    · have := chr_is c9 (by decide)
      rw [if_pos c9]
      by_cases c10 : 120 ≤ chr tx ln (p + 1) ∧ chr tx ln (p + 1) ≤ 122
      · have : p + 1 < ln := chr_lt (tx := tx) (by omega)
        rw [if_pos c10]
        refine FW.thn ((pM_fw r e (p + 2) (by omega)).up (by omega)) (fun a q _ h1 h2 => fw_some h1 h2)
      · rw [if_neg c10]; exact fw_none (by omega) (by omega)
    rw [if_neg c9]
    by_cases c11 : chr tx ln p = 63
    · have := chr_is c11 (by decide)
      rw [if_pos c11]
      by_cases c10 : 48 ≤ chr tx ln (p + 1) ∧ chr tx ln (p + 1) ≤ 49
      · have : p + 1 < ln := chr_lt (tx := tx) (by omega)
        rw [if_pos c10]
        refine FW.thn ((pM_fw r e (p + 2) (by omega)).up (by omega)) (fun a q _ h1 h2 => ?_)
        refine FW.thn ((pM_fw r e q (by omega)).up (by omega)) (fun b q' _ h3 h4 => fw_some (by omega) h4)
      · rw [if_neg c10]; exact fw_none (by omega) (by omega)
    rw [if_neg c11]
    exact fw_none (by omega) hp
end PmSp2
