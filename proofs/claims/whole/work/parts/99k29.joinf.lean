/-! FIRST USE: joins and comparisons. -/
theorem trx_nzS {e : Nat} {Γ : List Ty} {S T : Ty} (b : Bool) (tb : TB e (Γ, S, T)) : trx (Γ, S, T) ≤ nz 0 (fun _ => 1 + e) (2 + e) (vlr b e) (onz 0 (fun _ => 1 + e) (2 + e) (vlr b e) Γ) S := by
  have l1 := onz_len 0 (fun _ => 1 + e) (2 + e) (vlr b e) Γ
  have oS : ok Γ.length S = true := tb.1.2.1
  exact Nat.le_trans (trx_S tb) ((pmz_nz (b := b) (e := e) _ S _ _ (Nat.le_refl _) (by rw [l1, oq_len]) (by rw [l1]; exact oS) (fun j hj => (onz_oz Γ tb.1.1 j (by rw [l1] at hj; exact hj)).2)).1 true)
theorem trx_nzT {e : Nat} {Γ : List Ty} {S T : Ty} (b : Bool) (tb : TB e (Γ, S, T)) : trx (Γ, S, T) ≤ nz 0 (fun _ => 1 + e) (2 + e) (vlr b e) (onz 0 (fun _ => 1 + e) (2 + e) (vlr b e) Γ) T := by
  have l1 := onz_len 0 (fun _ => 1 + e) (2 + e) (vlr b e) Γ
  have oT : ok Γ.length T = true := tb.1.2.2
  exact Nat.le_trans (trx_T tb) ((pmz_nz (b := b) (e := e) _ T _ _ (Nat.le_refl _) (by rw [l1, oq_len]) (by rw [l1]; exact oT) (fun j hj => (onz_oz Γ tb.1.1 j (by rw [l1] at hj; exact hj)).2)).1 false)
/-- a comparison, one side being short -/
theorem cmp_first {Γ : List Ty} {S T : Ty} (tb : TB 1 (Γ, S, T)) (hk : tch S + cch Γ ≤ 56 ∨ tch T + cch Γ ≤ 56) : trx (Γ, S, T) ≤ 724 := by
  rcases hk with hk | hk
  · exact Nat.le_trans (trx_nzS true tb) (rows_first tb.1.1 tb.1.2.1 hk)
  · exact Nat.le_trans (trx_nzT true tb) (rows_first tb.1.1 tb.1.2.2 hk)
/-- a join, one side being short -/
theorem join_first {Γ : List Ty} {S T : Ty} (tb : TB 1 (Γ, S, T)) (hk : tch S + cch Γ ≤ 56 ∨ tch T + cch Γ ≤ 56) : gm (0, Γ, S, T) ≤ 724 ∧ gn (0, Γ, S, T) ≤ 556 := by
  rcases hk with hk | hk
  · exact ⟨Nat.le_trans (gm_rowsS (Nat.le_refl 1) (z := (0, Γ, S, T)) tb (Nat.zero_le 1)) (Nat.le_trans (urm_nz (b := true) (e := 1) (w := 0) tb.1.1 tb.1.2.1) (rows_first tb.1.1 tb.1.2.1 hk)), Nat.le_trans (gn_S (z := (0, Γ, S, T)) tb.1 (Nat.zero_le 1)) (Nat.le_trans (ugS_nz tb.1.1 tb.1.2.1) (goals_first tb.1.1 tb.1.2.1 hk))⟩
  · exact ⟨Nat.le_trans (gm_rowsT (Nat.le_refl 1) (z := (0, Γ, S, T)) tb (Nat.zero_le 1)) (Nat.le_trans (urm_nz (b := false) (e := 1) (w := 0) tb.1.1 tb.1.2.2) (rows_first tb.1.1 tb.1.2.2 hk)), Nat.le_trans (gn_T (z := (0, Γ, S, T)) tb.1 (Nat.zero_le 1)) (Nat.le_trans (ugT_nz tb.1.1 tb.1.2.2) (goals_first tb.1.1 tb.1.2.2 hk))⟩
