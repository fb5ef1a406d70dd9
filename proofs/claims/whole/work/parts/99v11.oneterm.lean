/-! A TERM BY NATURE, one scheme counted exactly: what is asked. -/
/-- rows: the body's forms, q1 before, q2 behind, other schemes of at most ob leaves -/
def oneR (VL : List (Nat × Nat)) (q1 q2 ob cd m : Nat) : Bool := VL.all (fun v => (List.range (v.1 + 1)).all (fun p => (frg fg1 q2).all (fun e => smX1 pp1 fr1 fx1 1 (v.2 + (v.1 - p) * max 1 (fx1.getD q1 0)) p 2 ob (e.2 + e.1 * max (max 1 (fx1.getD q1 0)) (1 + (3 + (v.2 + (v.1 - p) * max 1 (fx1.getD q1 0) + p * 2)))) 0 cd m 887)))
def oneG (VL : List (Nat × Nat)) (q1 q2 ob cd m : Nat) : Bool := VL.all (fun v => (List.range (v.1 + 1)).all (fun p => (frg fgq q2).all (fun e => smX1 ppq frq fxq 0 (v.2 + (v.1 - p) * max 1 (fxq.getD q1 0)) p 1 ob (e.2 + e.1 * max (max 1 (fxq.getD q1 0)) (0 + (1 + (v.2 + (v.1 - p) * max 1 (fxq.getD q1 0) + p * 1)))) 0 cd m 597)))
def OneT (VL VQ : List (Nat × Nat)) (q1 q2 ob cd : Nat) (C : Ty) (Γ0 Δ1 : List Ty) (Δ : List (Nat × Ty × Nat)) (f : Nat) (t : Ty) : Prop := (COk f t 0 ∧ NQk f t 0 ∧ (hasq f t = true → gqk f t = 0) ∧ mch t ≤ 17) ∧ (∀ b ∈ Γ0, nsch b = true ∨ flv b ≤ ob) ∧ (∀ b ∈ Δ1, nsch b = true ∨ flv b ≤ ob) ∧ (cch Γ0 ≤ q1 ∧ q1 ≤ 56) ∧ (cch Δ1 ≤ q2 ∧ q2 ≤ 38) ∧ (dch Δ ≤ cd ∧ 2 ≤ cd) ∧ (∃ v ∈ VL, XFm 0 (fun _ => 1 + 1) 3 1 (Γ0.length + 1) C v.1 v.2) ∧ (∃ v ∈ VQ, XFm 1 ngc 1 0 (Γ0.length + 1) C v.1 v.2) ∧ oneR VL q1 q2 ob cd (mch t) = true ∧ oneG VQ q1 q2 ob cd (mch t) = true
section PmVq
variable {f : Nat} {t C : Ty} {Γ0 Δ1 : List Ty} {Δ : List (Nat × Ty × Nat)} {VL VQ : List (Nat × Nat)} {q1 q2 ob cd : Nat}
theorem vlr_one (b : Bool) (y : Nat) : vlr b 1 y ≤ 1 + max 1 y := by
  unfold vlr
  split <;> omega
theorem OneT.v (w : TWf f (cxs Δ1 Γ0 (tAll tTop C)).length (Δ.map (fun a => a.1)) t) (he : TE (cxs Δ1 Γ0 (tAll tTop C)) Δ) (z : OneT VL VQ q1 q2 ob cd C Γ0 Δ1 Δ f t) : NtV (cxs Δ1 Γ0 (tAll tTop C)) Δ f t 887 597 := by
  obtain ⟨⟨co, nq, hg, h17⟩, hb0, hb1, ⟨hr, hr'⟩, ⟨hr2, hr2'⟩, ⟨hdc, hcd⟩, ⟨v, hv, x1, x2⟩, ⟨u, hu, y1, y2⟩, hR, hG⟩ := z
  refine fun S hS => ⟨fun b => ?_, ?_⟩
  · obtain ⟨p, hp, e, he', g1, g2, g3⟩ := nat_ctx (wB := 2) (v := v) (tbs1 b) fg1_ok (by decide) fg1_m (vlr_one b) (by decide) he.1 x1 x2 (by rw [nz_top]; exact vlr_one b 0) hr hr' hr2 hr2'
    have R := List.all_eq_true.mp (rng_all (List.all_eq_true.mp hR v hv) (i := p) (by omega)) e he'
    exact nat_fin (NC_rows b 1) (vlr_mono b 1) (vlr_lip b 1) (tbs1 b) px1_ok (Nat.le_refl _) (Nat.le_refl _) (vlr_one b) w he co nq hg h17 hb0 hb1 hdc hcd g1 g2 g3 R hS
  · obtain ⟨p, hp, e, he', g1, g2, g3⟩ := nat_ctx (wB := 1) (v := u) tbsq fgq_ok (by decide) fgq_m (fun y => by show y ≤ 0 + max 1 y; omega) (by decide) he.1 y1 y2 (by rw [nz_top]; exact Nat.le_refl _) hr hr' hr2 hr2'
    have R := List.all_eq_true.mp (rng_all (List.all_eq_true.mp hG u hu) (i := p) (by omega)) e he'
    exact nat_fin NC_goals (fun y y' hy => hy) (fun y δ => Nat.le_refl _) tbsq pxq_ok (by decide) (by decide) (fun y => by show y ≤ 0 + max 1 y; omega) w he co nq hg h17 hb0 hb1 hdc hcd g1 g2 g3 R hS
end PmVq
