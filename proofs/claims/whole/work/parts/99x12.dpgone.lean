/-! NO OTHER SCHEME HAS A BOUND TOP: pairs by one term, any term without a choice under an operation. -/
def jxm (T : List (List Nat)) (R : Nat) : Bool := T.all (fun l => l.all (fun x => Nat.ble x R))
theorem jx_m1 : jxm ux1 887 = true ∧ jxm uy1 887 = true := by decide +kernel
theorem jx_mq : jxm uxq 597 = true ∧ jxm uyq 597 = true := by decide +kernel
theorem jxm_get {T : List (List Nat)} {R : Nat} (h : jxm T R = true) (c m : Nat) : bhg T c m ≤ R := jwm_get (show jwm T R = true from h) c m
theorem bxe_le {A B : List (List Nat)} {R : Nat} (hA : jxm A R = true) (hB : jxm B R = true) (Δ : List (Nat × Ty × Nat)) (c m : Nat) : bhg (bxe Δ A B) c m ≤ R := by
  unfold bxe
  split
  · exact jxm_get hA c m
  · exact jxm_get hB c m
section PmXc
variable {f : Nat} {x y C : Ty} {Γ0 Δ1 : List Ty} {Δ : List (Nat × Ty × Nat)}
theorem pair_lgonex (x1 : TWf f (cxs Δ1 Γ0 (tAll tTop C)).length (Δ.map (fun a => a.1)) x) (x2 : TWf f (cxs Δ1 Γ0 (tAll tTop C)).length (Δ.map (fun a => a.1)) y) (he : TE (cxs Δ1 Γ0 (tAll tTop C)) Δ) (y1 : NAt f x) (y2 : NAt f y) (hv : noac (cxs Δ1 Γ0 (tAll tTop C))) (nC : noh 0 C = true) (sg : SGc 0 tTop C tTop Γ0 Δ1) (hd' : ∀ a ∈ Δ, noh 0 a.2.1 = true ∧ noal a.2.1 = true) (p1 : NHt 0 f x) (p2 : NHt 0 f y) (hs : (COk f x 0 ∧ mch x < 16) ∨ (COk f y 0 ∧ mch y < 16)) (m1 : 3 ≤ mch x) (m2 : 3 ≤ mch y) (k18 : 18 ≤ tch C) (hb : cch (cxs Δ1 Γ0 (tAll tTop C)) + dch Δ + (2 + (mch x + mch y)) ≤ 60) (h47 : cch (cxs Δ1 Γ0 (tAll tTop C)) ≤ 47) : PRn f x y (cxs Δ1 Γ0 (tAll tTop C)) Δ := by
  have va : ∀ b, vlr b 1 (mz b 1 Γ0 (tAll tTop tTop)) ≤ 7 := fun b => Nat.le_trans (gone_va (B := tTop) (Γ0 := Γ0) b) (by decide)
  have vg : gz Γ0 (tAll tTop tTop) ≤ 3 := Nat.le_trans (gone_vg (B := tTop) (Γ0 := Γ0)) (by decide)
  refine pair_gonev nC sg x1 x2 he y1 y2 hv hd' (by omega) p1 p2 ?_
  rcases hs with ⟨co, hs⟩ | ⟨co, hs⟩
  · refine Or.inl (fun S hS => ?_)
    have q := SMd.v (Dm := tTop) x1 he (Or.inr ⟨co, nC, p1, sg, fun a ha => (hd' a ha).1⟩) y1 hv (fun a ha => (hd' a ha).2) rfl va vg k18 hs (by omega) h47 S hS
    exact ⟨fun d => Nat.le_trans (q.1 d) (bxe_le jx_m1.2 jx_m1.1 Δ _ _), Nat.le_trans q.2 (bxe_le jx_mq.2 jx_mq.1 Δ _ _)⟩
  · refine Or.inr (fun S hS => ?_)
    have q := SMd.v (Dm := tTop) x2 he (Or.inr ⟨co, nC, p2, sg, fun a ha => (hd' a ha).1⟩) y2 hv (fun a ha => (hd' a ha).2) rfl va vg k18 hs (by omega) h47 S hS
    exact ⟨fun d => Nat.le_trans (q.1 d) (bxe_le jx_m1.2 jx_m1.1 Δ _ _), Nat.le_trans q.2 (bxe_le jx_mq.2 jx_mq.1 Δ _ _)⟩
end PmXc
