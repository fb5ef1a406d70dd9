/-! PAIRS WITHOUT A CHOICE: inner schemes of another kind, or with bodies that are worth little. -/
section PmWl
variable {f : Nat} {x y C : Ty} {Γ0 Δ1 : List Ty} {Δ : List (Nat × Ty × Nat)}
theorem pair_hkv (H : HKv 0 4 5 tTop C Γ0) (x1 : TWf f (cxs Δ1 Γ0 (tAll tTop C)).length (Δ.map (fun a => a.1)) x) (x2 : TWf f (cxs Δ1 Γ0 (tAll tTop C)).length (Δ.map (fun a => a.1)) y) (he : TE (cxs Δ1 Γ0 (tAll tTop C)) Δ) (y1 : NAt f x) (y2 : NAt f y) (hv : noac (cxs Δ1 Γ0 (tAll tTop C))) (hd' : ∀ a ∈ Δ, noal a.2.1 = true) (c1 : CFt f x) (c2 : CFt f y) (s1 : smp f x) (s2 : smp f y) (hp : phf (fun _ => true) C = true) (k27 : 27 ≤ tch C) (h6 : cch Γ0 + cch Δ1 ≤ 6) (h5 : 5 ≤ dch Δ) (hb : cch (cxs Δ1 Γ0 (tAll tTop C)) + dch Δ + (2 + (mch x + mch y)) ≤ 60) (h47 : cch (cxs Δ1 Γ0 (tAll tTop C)) ≤ 47) : PRn f x y (cxs Δ1 Γ0 (tAll tTop C)) Δ :=
  pair_wide (Dm := Dch 2) (H.ov (Dch_num (n := 2) (by decide) (by decide) (by decide) (by decide))) (fun b => Dch_va (n := 2) b) (Dch_vg (n := 2)) x1 x2 he y1 y2 hv hd' c1 c2 s1 s2 hp k27 h6 h5 hb h47
end PmWl
