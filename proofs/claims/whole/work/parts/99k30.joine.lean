/-! FIRST USE, where variables stand for variables. -/
theorem rows_first2 {b : Bool} {Γ : List Ty} {t : Ty} (ho : okc Γ) (o : ok Γ.length t = true) (hk : tch t + cch Γ ≤ 51) : nz 0 (fun _ => 1 + 2) (2 + 2) (vlr b 2) (onz 0 (fun _ => 1 + 2) (2 + 2) (vlr b 2) Γ) t ≤ 887 := by
  have p1 := tch_pos o
  obtain ⟨p, hp, q⟩ := nz_chars (t0 := 0) (n1 := fun _ => 1 + 2) (h := vlr b 2) fr2_ok fx2_ok (vlr_H b 2) (Nat.le_refl _) (fun m _ => by by_cases h0 : nlb m = 0 <;> by_cases h1 : nlb m = 1 <;> by_cases h2 : nlb m = 2 <;> simp [h0, h1, h2]) ho o (by omega) (by omega)
  exact Nat.le_trans q (fvc_le fv2_ok p1 hk hp)
theorem rows_first3 {b : Bool} {Γ : List Ty} {t : Ty} (ho : okc Γ) (o : ok Γ.length t = true) (hk : tch t + cch Γ ≤ 46) : nz 0 (fun _ => 1 + 3) (2 + 3) (vlr b 3) (onz 0 (fun _ => 1 + 3) (2 + 3) (vlr b 3) Γ) t ≤ 887 := by
  have p1 := tch_pos o
  obtain ⟨p, hp, q⟩ := nz_chars (t0 := 0) (n1 := fun _ => 1 + 3) (h := vlr b 3) fr3_ok fx3_ok (vlr_H b 3) (Nat.le_refl _) (fun m _ => by by_cases h0 : nlb m = 0 <;> by_cases h1 : nlb m = 1 <;> by_cases h2 : nlb m = 2 <;> simp [h0, h1, h2]) ho o (by omega) (by omega)
  exact Nat.le_trans q (fvc_le fv3_ok p1 hk hp)
theorem join_first2 {Γ : List Ty} {S T : Ty} (tb : TB 2 (Γ, S, T)) (hk : tch S + cch Γ ≤ 51 ∨ tch T + cch Γ ≤ 51) : gm (0, Γ, S, T) ≤ 887 ∧ gn (0, Γ, S, T) ≤ 556 ∧ trx (Γ, S, T) ≤ 887 := by
  rcases hk with hk | hk
  · exact ⟨Nat.le_trans (gm_rowsS (by decide) (z := (0, Γ, S, T)) tb (Nat.zero_le 1)) (Nat.le_trans (urm_nz (b := true) (e := 2) (w := 0) tb.1.1 tb.1.2.1) (rows_first2 tb.1.1 tb.1.2.1 hk)), Nat.le_trans (gn_S (z := (0, Γ, S, T)) tb.1 (Nat.zero_le 1)) (Nat.le_trans (ugS_nz tb.1.1 tb.1.2.1) (goals_first tb.1.1 tb.1.2.1 (by omega))), Nat.le_trans (trx_nzS true tb) (rows_first2 tb.1.1 tb.1.2.1 hk)⟩
  · exact ⟨Nat.le_trans (gm_rowsT (by decide) (z := (0, Γ, S, T)) tb (Nat.zero_le 1)) (Nat.le_trans (urm_nz (b := false) (e := 2) (w := 0) tb.1.1 tb.1.2.2) (rows_first2 tb.1.1 tb.1.2.2 hk)), Nat.le_trans (gn_T (z := (0, Γ, S, T)) tb.1 (Nat.zero_le 1)) (Nat.le_trans (ugT_nz tb.1.1 tb.1.2.2) (goals_first tb.1.1 tb.1.2.2 (by omega))), Nat.le_trans (trx_nzT true tb) (rows_first2 tb.1.1 tb.1.2.2 hk)⟩
theorem join_first3 {Γ : List Ty} {S T : Ty} (tb : TB 3 (Γ, S, T)) (hk : tch S + cch Γ ≤ 46 ∨ tch T + cch Γ ≤ 46) : gm (0, Γ, S, T) ≤ 887 ∧ gn (0, Γ, S, T) ≤ 556 ∧ trx (Γ, S, T) ≤ 887 := by
  rcases hk with hk | hk
  · exact ⟨Nat.le_trans (gm_rowsS (by decide) (z := (0, Γ, S, T)) tb (Nat.zero_le 1)) (Nat.le_trans (urm_nz (b := true) (e := 3) (w := 0) tb.1.1 tb.1.2.1) (rows_first3 tb.1.1 tb.1.2.1 hk)), Nat.le_trans (gn_S (z := (0, Γ, S, T)) tb.1 (Nat.zero_le 1)) (Nat.le_trans (ugS_nz tb.1.1 tb.1.2.1) (goals_first tb.1.1 tb.1.2.1 (by omega))), Nat.le_trans (trx_nzS true tb) (rows_first3 tb.1.1 tb.1.2.1 hk)⟩
  · exact ⟨Nat.le_trans (gm_rowsT (by decide) (z := (0, Γ, S, T)) tb (Nat.zero_le 1)) (Nat.le_trans (urm_nz (b := false) (e := 3) (w := 0) tb.1.1 tb.1.2.2) (rows_first3 tb.1.1 tb.1.2.2 hk)), Nat.le_trans (gn_T (z := (0, Γ, S, T)) tb.1 (Nat.zero_le 1)) (Nat.le_trans (ugT_nz tb.1.1 tb.1.2.2) (goals_first tb.1.1 tb.1.2.2 (by omega))), Nat.le_trans (trx_nzT true tb) (rows_first3 tb.1.1 tb.1.2.2 hk)⟩
