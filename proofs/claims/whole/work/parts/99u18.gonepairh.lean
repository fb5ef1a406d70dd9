/-! PAIRS WHERE A SCHEME IS NEVER ENTERED: one term by the coarse or the exact number. -/
def GoneH (B C : Ty) (Γ0 Δ1 : List Ty) (Δ : List (Nat × Ty × Nat)) (f : Nat) (t : Ty) (b c : Nat) : Prop := COk f t 0 ∧ NQk f t 0 ∧ tch (tAll B C) ≤ 56 ∧ mch t ≤ 17 ∧ ∃ g ob cd, (hasq f t = true → gqk f t ≤ g) ∧ (∀ b ∈ Γ0, nsch b = true ∨ flv b ≤ ob) ∧ (∀ b ∈ Δ1, nsch b = true ∨ flv b ≤ ob) ∧ cch Γ0 ≤ 56 ∧ cch Δ1 ≤ 38 ∧ dch Δ ≤ cd ∧ 2 ≤ cd ∧ smH pp1 fr1 fg1 fx1 1 4 (tch (tAll B C)) (cch Γ0) (cch Δ1) g ob (bqk f t 0) cd (mch t) b = true ∧ smH ppq frq fgq fxq 1 2 (tch (tAll B C)) (cch Γ0) (cch Δ1) g ob (bqk f t 0) cd (mch t) c = true
section PmUs
variable {hb f a1 c1 : Nat} {x y t B C : Ty} {Γ0 Δ1 : List Ty} {Δ : List (Nat × Ty × Nat)}
theorem gone_va (b : Bool) : vlr b 1 (mz b 1 Γ0 (tAll B tTop)) ≤ 4 := by
  unfold mz
  rw [nz_all, nz_top]
  cases b <;> decide
theorem gone_vg : gz Γ0 (tAll B tTop) ≤ 2 := by
  rw [gz_all, gz_top]
  decide
theorem GoneH.v (nC : noh hb C = true) (w : TWf f (cxs Δ1 Γ0 (tAll B C)).length (Δ.map (fun a => a.1)) t) (he : TE (cxs Δ1 Γ0 (tAll B C)) Δ) (nh : NHt hb f t) (na : NAt f t) (hc : noac (cxs Δ1 Γ0 (tAll B C))) (s : SGc hb B C tTop Γ0 Δ1) (hd' : ∀ a ∈ Δ, noh hb a.2.1 = true ∧ noal a.2.1 = true) (z : GoneH B C Γ0 Δ1 Δ f t a1 c1) : SmV tTop B C Γ0 Δ1 Δ f t a1 c1 := by
  obtain ⟨co, nq, hk, hm17, g, ob, cd, hg, hb0, hb1, hr, hr2, hdc, hcd, hR, hG⟩ := z
  exact fun S hS => ⟨fun d => gone_gen nC (NC_rows d 1) (vlr_mono d 1) (vlr_lip d 1) (tbs1 d) px1_ok (Nat.le_refl _) (Nat.le_refl _) fg1_ok (by decide) w he (gone_va d) co nh na hc s hd' nq hk hm17 hg hb0 hb1 hr hr2 hdc hcd hR hS, gone_gen nC NC_goals (fun y y' hy => hy) (fun y δ => Nat.le_refl _) tbsq pxq_ok (by decide) (by decide) fgq_ok (by decide) w he gone_vg co nh na hc s hd' nq hk hm17 hg hb0 hb1 hr hr2 hdc hcd hG hS⟩
theorem GoneT.v (nC : noh hb C = true) (w : TWf f (cxs Δ1 Γ0 (tAll B C)).length (Δ.map (fun a => a.1)) t) (he : TE (cxs Δ1 Γ0 (tAll B C)) Δ) (nh : NHt hb f t) (na : NAt f t) (hc : noac (cxs Δ1 Γ0 (tAll B C))) (s : SGc hb B C tTop Γ0 Δ1) (hd' : ∀ a ∈ Δ, noh hb a.2.1 = true ∧ noal a.2.1 = true) (z : GoneT B C Γ0 Δ1 Δ f t) : SmV tTop B C Γ0 Δ1 Δ f t 887 597 := fun _ hS => ⟨fun d => gone_rows d nC w he z nh na hc s hd' hS, gone_goals nC w he z nh na hc s hd' hS⟩
theorem pair_gonev (nC : noh hb C = true) (s : SGc hb B C tTop Γ0 Δ1) (x1 : TWf f (cxs Δ1 Γ0 (tAll B C)).length (Δ.map (fun a => a.1)) x) (x2 : TWf f (cxs Δ1 Γ0 (tAll B C)).length (Δ.map (fun a => a.1)) y) (he : TE (cxs Δ1 Γ0 (tAll B C)) Δ) (y1 : NAt f x) (y2 : NAt f y) (hv : noac (cxs Δ1 Γ0 (tAll B C))) (hd' : ∀ a ∈ Δ, noh hb a.2.1 = true ∧ noal a.2.1 = true) (hb' : cch (cxs Δ1 Γ0 (tAll B C)) ≤ 56) (p1 : NHt hb f x) (p2 : NHt hb f y) (z : SmV tTop B C Γ0 Δ1 Δ f x 887 597 ∨ SmV tTop B C Γ0 Δ1 Δ f y 887 597) : PRn f x y (cxs Δ1 Γ0 (tAll B C)) Δ := by
  intro S T hS hT
  obtain ⟨⟨tb, lS, lT⟩, q⟩ := pair_two x1 x2 he y1 y2 hv (fun a ha => (hd' a ha).2) hS hT
  have oS := (tyF_ok f _ _ Δ S x1 he hS).1
  have nS := tyF_noh nC f _ Δ1 Δ S x1 he p1 y1 hv s hd' hS
  have nT := tyF_noh nC f _ Δ1 Δ T x2 he p2 y2 hv s hd' hT
  refine ⟨?_, fun hf => ?_⟩
  · rcases z with z | z
    · exact LJ_goneS s (Nat.le_refl _) tb nS nT hb' lS lT ((z S hS).1 true) ((z S hS).2)
    · exact LJ_goneT s (Nat.le_refl _) tb nS nT hb' lS lT ((z T hT).1 false) ((z T hT).2)
  · obtain ⟨tb2, l2⟩ := q hf
    have nF : noh hb (k1 (expo (cxs Δ1 Γ0 (tAll B C)) (cxs Δ1 Γ0 (tAll B C)).length S)) = true := by
      rcases noh_expo s (cxs Δ1 Γ0 (tAll B C)).length S oS nS with e | e
      · exact noh_k1 e
      · rw [e, upb_all, hd_all] at hf
        exact absurd hf (by decide)
    rcases z with z | z
    · refine LB_gone s tb2 nT nF hb' lT l2 (Or.inr ⟨true, ?_⟩)
      have q1 := (z S hS).1 true
      have q2 := expo_gonez s (onz_cv (NC_rows true 1) s.o2) (cxs Δ1 Γ0 (tAll B C)).length S oS hf
      obtain ⟨oF, lF⟩ := expo_ok he.1 he.2.1 (cxs Δ1 Γ0 (tAll B C)).length S oS lS
      obtain ⟨a, b, e2, oa, ob⟩ := hd_is_fun oF hf
      rw [e2, nz_fun] at q2
      rw [e2]
      show nz 0 (fun _ => 1 + 1) (2 + 1) (vlr true 1) _ a ≤ 887
      unfold mz at q1
      omega
    · exact LB_gone s tb2 nT nF hb' lT l2 (Or.inl ⟨true, (z T hT).1 true⟩)
end PmUs
