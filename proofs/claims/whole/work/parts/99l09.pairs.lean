/-! TWO TERMS: a join, a comparison, by the shorter one. -/
theorem len_cch : ∀ (Γ : List Ty), Γ.length ≤ cch Γ
  | [] => Nat.le_refl _
  | b :: Γ => by
    have := len_cch Γ
    show Γ.length + 1 ≤ (tch b + 4) + cch Γ
    omega
section PmL9
variable {Γ : List Ty} {S T : Ty} {e : Nat}
/-- by the left side -/
theorem LJ_S (e1 : 1 ≤ e) (tb : TB e (Γ, S, T)) (hx : cch Γ ≤ 56) (lS : (flat S).length ≤ 16) (lT : (flat T).length ≤ 16) (q1 : nz 0 (fun _ => 1 + e) (2 + e) (vlr true e) (onz 0 (fun _ => 1 + e) (2 + e) (vlr true e) Γ) S ≤ 887) (q2 : nz 1 ngc 1 (fun x => x) (onz 1 ngc 1 (fun x => x) Γ) S ≤ 597) : LJ Γ S T := by
  have a1 := hgt_ctx tb.1.1 tb.1.2.1 lS hx
  have a2 := hgt_ctx tb.1.1 tb.1.2.2 lT hx
  have a3 := Nat.le_trans (gm_rowsS e1 (z := (0, Γ, S, T)) tb (Nat.zero_le 1)) (Nat.le_trans (urm_nz (b := true) (e := e) (w := 0) tb.1.1 tb.1.2.1) q1)
  have a4 := Nat.le_trans (gn_S (z := (0, Γ, S, T)) tb.1 (Nat.zero_le 1)) (Nat.le_trans (ugS_nz tb.1.1 tb.1.2.1) q2)
  exact ⟨Nat.le_trans (Nat.add_le_add a1 a2) (by decide), a3, Nat.add_le_add_right a4 3⟩
/-- by the right side -/
theorem LJ_T (e1 : 1 ≤ e) (tb : TB e (Γ, S, T)) (hx : cch Γ ≤ 56) (lS : (flat S).length ≤ 16) (lT : (flat T).length ≤ 16) (q1 : nz 0 (fun _ => 1 + e) (2 + e) (vlr false e) (onz 0 (fun _ => 1 + e) (2 + e) (vlr false e) Γ) T ≤ 887) (q2 : nz 1 ngc 1 (fun x => x) (onz 1 ngc 1 (fun x => x) Γ) T ≤ 597) : LJ Γ S T := by
  have a1 := hgt_ctx tb.1.1 tb.1.2.1 lS hx
  have a2 := hgt_ctx tb.1.1 tb.1.2.2 lT hx
  have a3 := Nat.le_trans (gm_rowsT e1 (z := (0, Γ, S, T)) tb (Nat.zero_le 1)) (Nat.le_trans (urm_nz (b := false) (e := e) (w := 0) tb.1.1 tb.1.2.2) q1)
  have a4 := Nat.le_trans (gn_T (z := (0, Γ, S, T)) tb.1 (Nat.zero_le 1)) (Nat.le_trans (ugT_nz tb.1.1 tb.1.2.2) q2)
  exact ⟨Nat.le_trans (Nat.add_le_add a1 a2) (by decide), a3, Nat.add_le_add_right a4 3⟩
/-- a comparison, by either side -/
theorem LB_ST (tb : TB e (Γ, S, T)) (hx : cch Γ ≤ 56) (lS : (flat S).length ≤ 16) (lT : (flat T).length ≤ 16) (q : (∃ b, nz 0 (fun _ => 1 + e) (2 + e) (vlr b e) (onz 0 (fun _ => 1 + e) (2 + e) (vlr b e) Γ) S ≤ 887) ∨ (∃ b, nz 0 (fun _ => 1 + e) (2 + e) (vlr b e) (onz 0 (fun _ => 1 + e) (2 + e) (vlr b e) Γ) T ≤ 887)) : LB Γ S T := by
  have a1 := hgt_ctx tb.1.1 tb.1.2.1 lS hx
  have a2 := hgt_ctx tb.1.1 tb.1.2.2 lT hx
  have a3 : trx (Γ, S, T) ≤ 887 := by
    rcases q with ⟨b, q⟩ | ⟨b, q⟩
    · exact Nat.le_trans (trx_nzS b tb) q
    · exact Nat.le_trans (trx_nzT b tb) q
  have a4 := len_cch Γ
  refine ⟨Nat.le_trans (Nat.add_le_add a1 a2) (by decide), ?_, a3⟩
  omega
end PmL9
section PmLa
variable {f : Nat} {x y : Ty} {Γ : List Ty} {Δ : List (Nat × Ty × Nat)} {S T : Ty} {e : Nat}
theorem short_c {f D : Nat} {sc : List Nat} {t : Ty} (w : TWf f D sc t) : 1 ≤ mch t := by
  cases f with
  | zero => exact w.elim
  | succ f => exact mch_pos w
end PmLa
