/-! A LONG SCHEME WITH A CERTAIN SCHEME INSIDE: terms and pairs by nature. -/
theorem cch_five : ∀ {Γ : List Ty}, okc Γ → cch Γ = 0 ∨ 5 ≤ cch Γ
  | [], _ => Or.inl rfl
  | a :: Γ, hc => by
    have := tch_pos hc.1
    refine Or.inr ?_
    show 5 ≤ (tch a + 4) + cch Γ
    omega
theorem cch_fiv {Γ0 : List Ty} {β : Ty} : ∀ {Δ1 : List Ty}, okc (cxs Δ1 Γ0 β) → cch Δ1 = 0 ∨ 5 ≤ cch Δ1
  | [], _ => Or.inl rfl
  | a :: Δ1, hc => by
    have := tch_pos hc.1
    refine Or.inr ?_
    show 5 ≤ (tch a + 4) + cch Δ1
    omega
def Kis (j : Nat) (k : Nat) : Bool := decide (k = j)
section PmWb
variable {f : Nat} {t x y C : Ty} {Γ0 Δ1 : List Ty} {Δ : List (Nat × Ty × Nat)} {d : Nat}
theorem fk_any1 (o : ok d C = true) (hk : tch C ≤ 40) (hp : phf (fun _ => true) C = true) : ∃ p ∈ frg xfa1 (tch C), XFm 0 (fun _ => 1 + 1) 3 1 d C p.1 p.2 := xf_form (n1 := fun _ => 1 + 1) xr1_ok xfa1_ok (by decide) (tbs1 true).2.2.2.1 (tbs1 true).2.2.2.2.1 (fun t d o hk _ => xr_form (n1 := fun _ => 1 + 1) xr1_ok (tbs1 true).2.2.2.1 (tbs1 true).2.2.2.2.1 _ t d (Nat.le_refl _) o hk) _ C d (Nat.le_refl _) o hk hp
theorem fk_anyq (o : ok d C = true) (hk : tch C ≤ 40) (hp : phf (fun _ => true) C = true) : ∃ p ∈ frg xfaq (tch C), XFm 1 ngc 1 0 d C p.1 p.2 := xf_form xrq_ok xfaq_ok (by decide) tbsq.2.2.2.1 tbsq.2.2.2.2.1 (fun t d o hk _ => xr_form xrq_ok tbsq.2.2.2.1 tbsq.2.2.2.2.1 _ t d (Nat.le_refl _) o hk) _ C d (Nat.le_refl _) o hk hp
end PmWb
