/-! FIRST USE: joins and comparisons. -/
theorem trx_nzS {e : Nat} {Γ : List Ty} {S T : Ty} (b : Bool) (tb : TB e (Γ, S, T)) : trx (Γ, S, T) ≤ nz 0 (fun _ => 1 + e) (2 + e) (vlr b e) (onz 0 (fun _ => 1 + e) (2 + e) (vlr b e) Γ) S := by
  have l1 := onz_len 0 (fun _ => 1 + e) (2 + e) (vlr b e) Γ
  have oS : ok Γ.length S = true := tb.1.2.1
  exact Nat.le_trans (trx_S tb) ((pmz_nz (b := b) (e := e) _ S _ _ (Nat.le_refl _) (by rw [l1, oq_len]) (by rw [l1]; exact oS) (fun j hj => (onz_oz Γ tb.1.1 j (by rw [l1] at hj; exact hj)).2)).1 true)
theorem trx_nzT {e : Nat} {Γ : List Ty} {S T : Ty} (b : Bool) (tb : TB e (Γ, S, T)) : trx (Γ, S, T) ≤ nz 0 (fun _ => 1 + e) (2 + e) (vlr b e) (onz 0 (fun _ => 1 + e) (2 + e) (vlr b e) Γ) T := by
  have l1 := onz_len 0 (fun _ => 1 + e) (2 + e) (vlr b e) Γ
  have oT : ok Γ.length T = true := tb.1.2.2
  exact Nat.le_trans (trx_T tb) ((pmz_nz (b := b) (e := e) _ T _ _ (Nat.le_refl _) (by rw [l1, oq_len]) (by rw [l1]; exact oT) (fun j hj => (onz_oz Γ tb.1.1 j (by rw [l1] at hj; exact hj)).2)).1 false)
