/-! EVERY TERM (no choice under an operation) BY NATURE: a pair by one of its terms. -/
/-- what is asked of the shorter term -/
def NatT (f : Nat) (t : Ty) (Γ : List Ty) (Δ : List (Nat × Ty × Nat)) : Prop := COk f t 0 ∧ ∃ cd L p, dch Δ ≤ cd ∧ 2 ≤ cd ∧ cch Γ + cd + 2 * mch t ≤ 58 ∧ L ≤ 56 ∧ (hasq f t = true → cch Γ + gqk f t ≤ L) ∧ mch t ≤ 21 ∧ lmx fr1 (mch t) ≤ p ∧ (∀ b ∈ Γ, nsch b = true ∨ flv b ≤ p) ∧ natB pp1 (Zr (fx1.getD L 0)) (cch Γ + cd) (mch t) (max (fx1.getD (cch Γ) 0) (Zr (fx1.getD L 0) (mch t))) p 887 = true ∧ natB ppq (Zg (fxq.getD L 0)) (cch Γ + cd) (mch t) (max (fxq.getD (cch Γ) 0) (Zg (fxq.getD L 0) (mch t))) p 597 = true
section PmQ8
variable {f : Nat} {t : Ty} {Γ : List Ty} {Δ : List (Nat × Ty × Nat)} {S : Ty}
theorem nat_rows (b : Bool) (w : TWf f Γ.length (Δ.map (fun a => a.1)) t) (he : TE Γ Δ) (hx : NatT f t Γ Δ) (hS : tyF f t Γ Δ = .inr S) : nz 0 (fun _ => 1 + 1) (2 + 1) (vlr b 1) (onz 0 (fun _ => 1 + 1) (2 + 1) (vlr b 1) Γ) S ≤ 887 := by
  obtain ⟨co, cd, L, p, h1, h2, h3, h4, h5, h6, h7, h8, h9, -⟩ := hx
  exact natB_le h9 (nat_BF (NC_rows b 1) (vlr_mono b 1) (vlr_lip b 1) (tbs1 b) px1_ok (Nat.le_refl _) (Nat.le_refl _) (Zr_ok _) w he co hS h1 h2 h3 h4 h5 (fun q q1 q2 => zr_le q1 (by omega)) (Nat.le_max_right _ _) (Nat.le_max_left _ _) (fun A d o ht => Nat.le_trans (flv_lmx o ht (by omega)) h7) h8)
theorem nat_goals (w : TWf f Γ.length (Δ.map (fun a => a.1)) t) (he : TE Γ Δ) (hx : NatT f t Γ Δ) (hS : tyF f t Γ Δ = .inr S) : nz 1 ngc 1 (fun x => x) (onz 1 ngc 1 (fun x => x) Γ) S ≤ 597 := by
  obtain ⟨co, cd, L, p, h1, h2, h3, h4, h5, h6, h7, h8, -, h9⟩ := hx
  exact natB_le h9 (nat_BF NC_goals (fun y y' hy => hy) (fun y δ => Nat.le_refl _) tbsq pxq_ok (by decide) (by decide) (Zg_ok _) w he co hS h1 h2 h3 h4 h5 (fun q q1 q2 => zg_le q1 (by omega)) (Nat.le_max_right _ _) (Nat.le_max_left _ _) (fun A d o ht => Nat.le_trans (flv_lmx o ht (by omega)) h7) h8)
end PmQ8
