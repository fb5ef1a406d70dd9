/-! PAIRS BY THEIR SUM, heads counted exactly. -/
def SmH (va vg : Nat) (B C : Ty) (Γ0 Δ1 : List Ty) (Δ : List (Nat × Ty × Nat)) (f : Nat) (t : Ty) (b c : Nat) : Prop := CFt f t ∧ NQk f t 0 ∧ tch (tAll B C) ≤ 56 ∧ mch t ≤ 17 ∧ ∃ g ob cd, (hasq f t = true → gqk f t ≤ g) ∧ (∀ b ∈ Γ0, nsch b = true ∨ flv b ≤ ob) ∧ (∀ b ∈ Δ1, nsch b = true ∨ flv b ≤ ob) ∧ cch Γ0 ≤ 56 ∧ cch Δ1 ≤ 38 ∧ dch Δ ≤ cd ∧ 2 ≤ cd ∧ smH pp1 fr1 fg1 fx1 1 va (tch (tAll B C)) (cch Γ0) (cch Δ1) g ob (bqk f t 0) cd (mch t) b = true ∧ smH ppq frq fgq fxq 1 vg (tch (tAll B C)) (cch Γ0) (cch Δ1) g ob (bqk f t 0) cd (mch t) c = true
/-- a term that is worth at most b rows and c goals where the scheme's body is small -/
def SmV (Dm : Ty) (B C : Ty) (Γ0 Δ1 : List Ty) (Δ : List (Nat × Ty × Nat)) (f : Nat) (t : Ty) (b c : Nat) : Prop := ∀ S, tyF f t (cxs Δ1 Γ0 (tAll B C)) Δ = .inr S → (∀ d, mz d 1 (cxs Δ1 Γ0 (tAll B Dm)) S ≤ b) ∧ gz (cxs Δ1 Γ0 (tAll B Dm)) S ≤ c
section PmUq
variable {va vg f a1 a2 c1 c2 : Nat} {x y t B C Dm : Ty} {Γ0 Δ1 : List Ty} {Δ : List (Nat × Ty × Nat)}
theorem SmT.v (w : TWf f (cxs Δ1 Γ0 (tAll B C)).length (Δ.map (fun a => a.1)) t) (he : TE (cxs Δ1 Γ0 (tAll B C)) Δ) (oD : ok (Γ0.length + 1) Dm = true) (vD : ∀ b, vlr b 1 (mz b 1 Γ0 (tAll B Dm)) ≤ va) (vG : gz Γ0 (tAll B Dm) ≤ vg) (z : SmT va vg B C Γ0 Δ1 Δ f t a1 c1) : SmV Dm B C Γ0 Δ1 Δ f t a1 c1 := fun _ hS => ⟨fun d => sm_rows d w he oD (vD d) z hS, sm_goals w he oD vG z hS⟩
theorem SmH.v (w : TWf f (cxs Δ1 Γ0 (tAll B C)).length (Δ.map (fun a => a.1)) t) (he : TE (cxs Δ1 Γ0 (tAll B C)) Δ) (oD : ok (Γ0.length + 1) Dm = true) (vD : ∀ b, vlr b 1 (mz b 1 Γ0 (tAll B Dm)) ≤ va) (vG : gz Γ0 (tAll B Dm) ≤ vg) (z : SmH va vg B C Γ0 Δ1 Δ f t a1 c1) : SmV Dm B C Γ0 Δ1 Δ f t a1 c1 := by
  obtain ⟨co, nq, hk, hm17, g, ob, cd, hg, hb0, hb1, hr, hr2, hdc, hcd, hR, hG⟩ := z
  exact fun S hS => ⟨fun d => sm_gen (NC_rows d 1) (vlr_mono d 1) (vlr_lip d 1) (tbs1 d) px1_ok (Nat.le_refl _) (Nat.le_refl _) fg1_ok (by decide) w he oD (vD d) co nq hk hm17 hg hb0 hb1 hr hr2 hdc hcd hR hS, sm_gen NC_goals (fun y y' hy => hy) (fun y δ => Nat.le_refl _) tbsq pxq_ok (by decide) (by decide) fgq_ok (by decide) w he oD vG co nq hk hm17 hg hb0 hb1 hr hr2 hdc hcd hG hS⟩
/-- a pair, by its sum -/
theorem pair_sumv (ov : OVq 1 B C Dm Γ0) (x1 : TWf f (cxs Δ1 Γ0 (tAll B C)).length (Δ.map (fun a => a.1)) x) (x2 : TWf f (cxs Δ1 Γ0 (tAll B C)).length (Δ.map (fun a => a.1)) y) (he : TE (cxs Δ1 Γ0 (tAll B C)) Δ) (y1 : NAt f x) (y2 : NAt f y) (hv : noac (cxs Δ1 Γ0 (tAll B C))) (hd' : ∀ a ∈ Δ, noal a.2.1 = true) (hb : cch (cxs Δ1 Γ0 (tAll B C)) ≤ 56) (z1 : SmV Dm B C Γ0 Δ1 Δ f x a1 c1) (z2 : SmV Dm B C Γ0 Δ1 Δ f y a2 c2) (ha : a1 + a2 ≤ 887) (hg : c1 + c2 ≤ 597) : PRn f x y (cxs Δ1 Γ0 (tAll B C)) Δ := by
  intro S T hS hT
  obtain ⟨⟨tb, lS, lT⟩, q⟩ := pair_two x1 x2 he y1 y2 hv hd' hS hT
  have oD := ov.1.1
  obtain ⟨r1, g1⟩ := z1 S hS
  obtain ⟨r2, g2⟩ := z2 T hT
  refine ⟨LJ_opD ov (Nat.le_refl 1) tb hb lS lT (Nat.le_trans (Nat.add_le_add (r1 true) (r2 false)) ha) (Nat.le_trans (Nat.add_le_add g1 g2) hg), fun hf => ?_⟩
  obtain ⟨tb2, l2⟩ := q hf
  have oS := (tyF_ok f _ _ Δ S x1 he hS).1
  refine LB_opD ov true true tb2 hb lT l2 ?_
  have q2 := expo_small (h := vlr true 1) (t0 := 0) (n1 := fun _ => 1 + 1) (s2 := 2 + 1) oD he.1 (onz_cv (NC_rows true 1) (cxd_okc oD Δ1 he.1)) (cxs Δ1 Γ0 (tAll B C)).length S oS hf
  obtain ⟨oF, lF⟩ := expo_ok he.1 he.2.1 (cxs Δ1 Γ0 (tAll B C)).length S oS lS
  obtain ⟨a, b, e2, oa, ob⟩ := hd_is_fun oF hf
  rw [e2, nz_fun] at q2
  rw [e2]
  have q3 : mz true 1 (cxs Δ1 Γ0 (tAll B Dm)) a ≤ mz true 1 (cxs Δ1 Γ0 (tAll B Dm)) S := by
    unfold mz
    omega
  have p1 := r1 true
  have p2 := r2 true
  show mz true 1 _ T + mz true 1 _ a ≤ 887
  omega
theorem Dsm_va (b : Bool) : vlr b 1 (mz b 1 Γ0 (tAll B Dsm)) ≤ 7 := by
  unfold Dsm mz
  rw [nz_all, nz_all, nz_top]
  cases b <;> decide
theorem Dsm_vg : gz Γ0 (tAll B Dsm) ≤ 3 := by
  unfold Dsm
  rw [gz_all, gz_all, gz_top]
  decide
end PmUq
