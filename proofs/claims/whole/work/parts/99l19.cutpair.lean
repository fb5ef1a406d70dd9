/-! TWO TYPES IN A CONTEXT THAT IS CUT. -/
section PmLk
variable {κ : Ty → Bool} {hb e : Nat} {B C : Ty} {Γ0 Δ0 : List Ty} {S T : Ty}
/-- rows and goals by the left side, in the cut context -/
theorem LJ_cutS (h0 : CH0 κ hb B C Γ0) (cg : CG κ hb B C Γ0 Δ0) (e1 : 1 ≤ e) (tk : tok (cA B C Γ0 Δ0, S, T)) (tb : TB e (cB κ B C Γ0 Δ0, S, T)) (kS : KK κ hb Γ0.length (cA B C Γ0 Δ0).length S) (kT : KK κ hb Γ0.length (cA B C Γ0 Δ0).length T) (hx : cch (cA B C Γ0 Δ0) ≤ 56) (lS : (flat S).length ≤ 16) (lT : (flat T).length ≤ 16) (q1 : nz 0 (fun _ => 1 + e) (2 + e) (vlr true e) (onz 0 (fun _ => 1 + e) (2 + e) (vlr true e) (cB κ B C Γ0 Δ0)) S ≤ 830) (q2 : nz 1 ngc 1 (fun x => x) (onz 1 ngc 1 (fun x => x) (cB κ B C Γ0 Δ0)) S ≤ 597) : LJ (cA B C Γ0 Δ0) S T := by
  have a1 := hgt_ctx tk.1 tk.2.1 lS hx
  have a2 := hgt_ctx tk.1 tk.2.2 lT hx
  obtain ⟨g1, g2⟩ := gm_cut h0 cg (w := 0) tk.2.1 tk.2.2 kS kT
  have a3 := Nat.le_trans (gm_rowsS e1 (z := (0, cB κ B C Γ0 Δ0, S, T)) tb (Nat.zero_le 1)) (Nat.le_trans (urm_nz (b := true) (e := e) (w := 0) tb.1.1 tb.1.2.1) q1)
  have a4 := Nat.le_trans (gn_S (z := (0, cB κ B C Γ0 Δ0, S, T)) tb.1 (Nat.zero_le 1)) (Nat.le_trans (ugS_nz tb.1.1 tb.1.2.1) q2)
  refine ⟨Nat.le_trans (Nat.add_le_add a1 a2) (by decide), ?_, ?_⟩
  · rw [g1]; exact a3
  · rw [g2]; exact Nat.add_le_add_right a4 3
/-- by the right side -/
theorem LJ_cutT (h0 : CH0 κ hb B C Γ0) (cg : CG κ hb B C Γ0 Δ0) (e1 : 1 ≤ e) (tk : tok (cA B C Γ0 Δ0, S, T)) (tb : TB e (cB κ B C Γ0 Δ0, S, T)) (kS : KK κ hb Γ0.length (cA B C Γ0 Δ0).length S) (kT : KK κ hb Γ0.length (cA B C Γ0 Δ0).length T) (hx : cch (cA B C Γ0 Δ0) ≤ 56) (lS : (flat S).length ≤ 16) (lT : (flat T).length ≤ 16) (q1 : nz 0 (fun _ => 1 + e) (2 + e) (vlr false e) (onz 0 (fun _ => 1 + e) (2 + e) (vlr false e) (cB κ B C Γ0 Δ0)) T ≤ 830) (q2 : nz 1 ngc 1 (fun x => x) (onz 1 ngc 1 (fun x => x) (cB κ B C Γ0 Δ0)) T ≤ 597) : LJ (cA B C Γ0 Δ0) S T := by
  have a1 := hgt_ctx tk.1 tk.2.1 lS hx
  have a2 := hgt_ctx tk.1 tk.2.2 lT hx
  obtain ⟨g1, g2⟩ := gm_cut h0 cg (w := 0) tk.2.1 tk.2.2 kS kT
  have a3 := Nat.le_trans (gm_rowsT e1 (z := (0, cB κ B C Γ0 Δ0, S, T)) tb (Nat.zero_le 1)) (Nat.le_trans (urm_nz (b := false) (e := e) (w := 0) tb.1.1 tb.1.2.2) q1)
  have a4 := Nat.le_trans (gn_T (z := (0, cB κ B C Γ0 Δ0, S, T)) tb.1 (Nat.zero_le 1)) (Nat.le_trans (ugT_nz tb.1.1 tb.1.2.2) q2)
  refine ⟨Nat.le_trans (Nat.add_le_add a1 a2) (by decide), ?_, ?_⟩
  · rw [g1]; exact a3
  · rw [g2]; exact Nat.add_le_add_right a4 3
/-- a comparison -/
theorem LB_cut (h0 : CH0 κ hb B C Γ0) (cg : CG κ hb B C Γ0 Δ0) (tk : tok (cA B C Γ0 Δ0, S, T)) (tb : TB e (cB κ B C Γ0 Δ0, S, T)) (kS : KK κ hb Γ0.length (cA B C Γ0 Δ0).length S) (kT : KK κ hb Γ0.length (cA B C Γ0 Δ0).length T) (hx : cch (cA B C Γ0 Δ0) ≤ 56) (lS : (flat S).length ≤ 16) (lT : (flat T).length ≤ 16) (q : (∃ b, nz 0 (fun _ => 1 + e) (2 + e) (vlr b e) (onz 0 (fun _ => 1 + e) (2 + e) (vlr b e) (cB κ B C Γ0 Δ0)) S ≤ 830) ∨ (∃ b, nz 0 (fun _ => 1 + e) (2 + e) (vlr b e) (onz 0 (fun _ => 1 + e) (2 + e) (vlr b e) (cB κ B C Γ0 Δ0)) T ≤ 830)) : LB (cA B C Γ0 Δ0) S T := by
  have a1 := hgt_ctx tk.1 tk.2.1 lS hx
  have a2 := hgt_ctx tk.1 tk.2.2 lT hx
  have a3 : trx (cA B C Γ0 Δ0, S, T) ≤ 830 := by
    rw [trx_cut h0 cg tk.2.1 tk.2.2 kS kT]
    rcases q with ⟨b, q⟩ | ⟨b, q⟩
    · exact Nat.le_trans (trx_nzS b tb) q
    · exact Nat.le_trans (trx_nzT b tb) q
  have a4 := len_cch (cA B C Γ0 Δ0)
  refine ⟨Nat.le_trans (Nat.add_le_add a1 a2) (by decide), ?_, a3⟩
  omega
end PmLk
