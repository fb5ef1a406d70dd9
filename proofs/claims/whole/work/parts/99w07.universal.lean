/-! ANY TWO TERMS, by the nodes of their types: the context is small, or it is small without the body of a scheme that is never entered. -/
theorem fnv_u1 : fnv fn1 20 788 = true := by decide +kernel
theorem fnv_uq : fnv fnq 13 503 = true := by decide +kernel
section PmWi
variable {hb f : Nat} {x y B C : Ty} {Γ Γ0 Δ1 : List Ty} {Δ : List (Nat × Ty × Nat)}
theorem val_u1 (b : Bool) (hc : okc Γ) (h19 : cch Γ ≤ 19) : ∀ j, j < Γ.length → vw (onz 0 (fun _ => 1 + 1) (2 + 1) (vlr b 1) Γ) j ≤ 20 := fun j hj => Nat.le_trans (onz_chars (n1 := fun _ => 1 + 1) (tbs1 b).1 (tbs1 b).2.1 (tbs1 b).2.2.1 (tbs1 b).2.2.2.1 (tbs1 b).2.2.2.2.1 Γ hc (by omega) j hj) (Nat.le_trans (fxc_le (tbs1 b).2.1 (c := cch Γ) (d := 19) h19 (by decide)) (by decide))
theorem val_uq (hc : okc Γ) (h19 : cch Γ ≤ 19) : ∀ j, j < Γ.length → vw (onz 1 ngc 1 (fun y => y) Γ) j ≤ 13 := fun j hj => Nat.le_trans (onz_chars (n1 := ngc) tbsq.1 tbsq.2.1 tbsq.2.2.1 tbsq.2.2.2.1 tbsq.2.2.2.2.1 Γ hc (by omega) j hj) (Nat.le_trans (fxc_le tbsq.2.1 (c := cch Γ) (d := 19) h19 (by decide)) (by decide))
/-- a small context -/
theorem pair_u1 (x1 : TWf f Γ.length (Δ.map (fun a => a.1)) x) (x2 : TWf f Γ.length (Δ.map (fun a => a.1)) y) (he : TE Γ Δ) (y1 : NAt f x) (y2 : NAt f y) (hv : noac Γ) (hd' : ∀ a ∈ Δ, noal a.2.1 = true) (h19 : cch Γ ≤ 19) : PRn f x y Γ Δ := by
  refine pair_ntv x1 x2 he y1 y2 hv hd' (by omega) (Or.inl (fun S hS => ?_))
  have oS := tyF_ok f x Γ Δ S x1 he hS
  exact ⟨fun d => Nat.le_trans (mz_nodes d fnv_u1 (by decide) oS.1 oS.2 (val_u1 d he.1 h19)) (by decide), Nat.le_trans (gz_nodes fnv_uq (by decide) oS.1 oS.2 (val_uq he.1 h19)) (by decide)⟩
/-- a scheme that is never entered, the rest of the context small -/
theorem pair_u2 (nC : noh hb C = true) (s : SGc hb B C tTop Γ0 Δ1) (x1 : TWf f (cxs Δ1 Γ0 (tAll B C)).length (Δ.map (fun a => a.1)) x) (x2 : TWf f (cxs Δ1 Γ0 (tAll B C)).length (Δ.map (fun a => a.1)) y) (he : TE (cxs Δ1 Γ0 (tAll B C)) Δ) (y1 : NAt f x) (y2 : NAt f y) (hv : noac (cxs Δ1 Γ0 (tAll B C))) (hd' : ∀ a ∈ Δ, noh hb a.2.1 = true ∧ noal a.2.1 = true) (hb' : cch (cxs Δ1 Γ0 (tAll B C)) ≤ 56) (p1 : NHt hb f x) (p2 : NHt hb f y) (h19 : cch (cxs Δ1 Γ0 (tAll B tTop)) ≤ 19) : PRn f x y (cxs Δ1 Γ0 (tAll B C)) Δ := by
  refine pair_gonev nC s x1 x2 he y1 y2 hv hd' hb' p1 p2 (Or.inl (fun S hS => ?_))
  have oS := tyF_ok f x _ Δ S x1 he hS
  have o2 : ok (cxs Δ1 Γ0 (tAll B tTop)).length S = true := by rw [cxs_ll (tAll B tTop) (tAll B C)]; exact oS.1
  exact ⟨fun d => Nat.le_trans (mz_nodes d fnv_u1 (by decide) o2 oS.2 (val_u1 d s.o2 h19)) (by decide), Nat.le_trans (gz_nodes fnv_uq (by decide) o2 oS.2 (val_uq s.o2 h19)) (by decide)⟩
end PmWi
