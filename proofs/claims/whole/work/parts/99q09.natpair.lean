/-! EVERY TERM (no choice under an operation) BY NATURE: a pair by one of its terms. -/
/-- what is asked of the shorter term -/
def NatT (f : Nat) (t : Ty) (Γ : List Ty) (Δ : List (Nat × Ty × Nat)) : Prop := COk f t 0 ∧ ∃ cd L p, dch Δ ≤ cd ∧ 2 ≤ cd ∧ cch Γ + cd + 2 * mch t ≤ 58 ∧ L ≤ 56 ∧ (hasq f t = true → cch Γ + gqk f t ≤ L) ∧ mch t ≤ 21 ∧ lmx fr1 (mch t) ≤ p ∧ (∀ b ∈ Γ, nsch b = true ∨ flv b ≤ p) ∧ natB pp1 (Zr (fx1.getD L 0)) (cch Γ + cd) (mch t) (max (fx1.getD (cch Γ) 0) (Zr (fx1.getD L 0) (mch t))) p 830 = true ∧ natB ppq (Zg (fxq.getD L 0)) (cch Γ + cd) (mch t) (max (fxq.getD (cch Γ) 0) (Zg (fxq.getD L 0) (mch t))) p 597 = true
section PmQ8
variable {f : Nat} {t : Ty} {Γ : List Ty} {Δ : List (Nat × Ty × Nat)} {S : Ty}
theorem nat_rows (b : Bool) (w : TWf f Γ.length (Δ.map (fun a => a.1)) t) (he : TE Γ Δ) (hx : NatT f t Γ Δ) (hS : tyF f t Γ Δ = .inr S) : nz 0 (fun _ => 1 + 1) (2 + 1) (vlr b 1) (onz 0 (fun _ => 1 + 1) (2 + 1) (vlr b 1) Γ) S ≤ 830 := by
  obtain ⟨co, cd, L, p, h1, h2, h3, h4, h5, h6, h7, h8, h9, -⟩ := hx
  exact natB_le h9 (nat_BF (NC_rows b 1) (vlr_mono b 1) (vlr_lip b 1) (tbs1 b) px1_ok (Nat.le_refl _) (Nat.le_refl _) (Zr_ok _) w he co hS h1 h2 h3 h4 h5 (fun q q1 q2 => zr_le q1 (by omega)) (Nat.le_max_right _ _) (Nat.le_max_left _ _) (fun A d o ht => Nat.le_trans (flv_lmx o ht (by omega)) h7) h8)
theorem nat_goals (w : TWf f Γ.length (Δ.map (fun a => a.1)) t) (he : TE Γ Δ) (hx : NatT f t Γ Δ) (hS : tyF f t Γ Δ = .inr S) : nz 1 ngc 1 (fun x => x) (onz 1 ngc 1 (fun x => x) Γ) S ≤ 597 := by
  obtain ⟨co, cd, L, p, h1, h2, h3, h4, h5, h6, h7, h8, -, h9⟩ := hx
  exact natB_le h9 (nat_BF NC_goals (fun y y' hy => hy) (fun y δ => Nat.le_refl _) tbsq pxq_ok (by decide) (by decide) (Zg_ok _) w he co hS h1 h2 h3 h4 h5 (fun q q1 q2 => zg_le q1 (by omega)) (Nat.le_max_right _ _) (Nat.le_max_left _ _) (fun A d o ht => Nat.le_trans (flv_lmx o ht (by omega)) h7) h8)
end PmQ8
section PmQ9
variable {f : Nat} {x y : Ty} {Γ : List Ty} {Δ : List (Nat × Ty × Nat)}
/-- two terms, by one of them -/
theorem pair_nat (x1 : TWf f Γ.length (Δ.map (fun a => a.1)) x) (x2 : TWf f Γ.length (Δ.map (fun a => a.1)) y) (he : TE Γ Δ) (y1 : NAt f x) (y2 : NAt f y) (hv : noac Γ) (hd' : ∀ a ∈ Δ, noal a.2.1 = true) (hb : cch Γ ≤ 56) (z : NatT f x Γ Δ ∨ NatT f y Γ Δ) : PRn f x y Γ Δ := by
  intro S T hS hT
  obtain ⟨⟨tb, lS, lT⟩, q⟩ := pair_two x1 x2 he y1 y2 hv hd' hS hT
  have oS := (tyF_ok f x Γ Δ S x1 he hS).1
  refine ⟨?_, fun hf => ?_⟩
  · rcases z with z | z
    · exact LJ_S (Nat.le_refl _) tb hb lS lT (nat_rows true x1 he z hS) (nat_goals x1 he z hS)
    · exact LJ_T (Nat.le_refl _) tb hb lS lT (nat_rows false x2 he z hT) (nat_goals x2 he z hT)
  · obtain ⟨tb2, l2⟩ := q hf
    rcases z with z | z
    · refine LB_ST tb2 hb lT l2 (Or.inr ⟨true, ?_⟩)
      have q1 := nat_rows true x1 he z hS
      have q2 := expo_nz he.1 (onz_cv (NC_rows true 1) he.1) Γ.length S oS
      obtain ⟨oF, lF⟩ := expo_ok he.1 he.2.1 Γ.length S oS lS
      obtain ⟨a, b, e2, oa, ob⟩ := hd_is_fun oF hf
      rw [e2, nz_fun] at q2
      rw [e2]
      show nz 0 (fun _ => 1 + 1) (2 + 1) (vlr true 1) _ a ≤ 830
      omega
    · exact LB_ST tb2 hb lT l2 (Or.inl ⟨true, nat_rows true x2 he z hT⟩)
end PmQ9
