/-! RESTX9: no names around is done. -/
def W9p (m : Nat) (e : Bool) (Γ : List Ty) : Prop := e = false ∧ (ExA Γ ∨ (∃ C : Ty, Γ = [tAll tR0 C] ∧ LBd [] [] (tAll tR0 C) tTop tR0 C ∧ sN tR0 0 1 C = true ∧ m = 7 ∧ (tch C = 28 ∨ tch C = 29)) ∨ (∃ (Δ1 Γ0 : List Ty) (b b' B C : Ty), Γ = cxs Δ1 Γ0 b ∧ LBd Γ0 Δ1 b b' B C ∧ ¬ IS2 (fun _ => False) b ∧ hd b ≠ 2 ∧ 1 ≤ cch Γ0 + cch Δ1 ∧ exK m (tch B) (tch C) (tch b - tch (tAll B C)) (cch Γ0) (cch Δ1) = true))
def RESTX9 : Prop := ∀ (f : Nat) (x y : Ty) (Γ : List Ty) (Δ : List (Nat × Ty × Nat)) (t : Ty), H9 f x y Γ Δ → Sh9 x y t → (¬ CHo f t [] ∨ (CHo f t [] ∧ (W9p (mch (pee f t).2) Δ.isEmpty Γ ∨ V9a f x y t (mch (pee f t).2) Δ.isEmpty Γ))) → PRn f x y Γ Δ
theorem restW9_of (R : RESTX9) : RESTW9 := by
  intro f x y Γ Δ t H sh h
  rcases h with h | ⟨ch, h | h⟩
  · exact R f x y Γ Δ t H sh (Or.inl h)
  rotate_left
  · exact R f x y Γ Δ t H sh (Or.inr ⟨ch, Or.inr h⟩)
  rcases h with ⟨eI, h⟩ | ⟨B, C, eΓ, b2, lb, fl, hx⟩ | ⟨eI, h⟩
  · exact R f x y Γ Δ t H sh (Or.inr ⟨ch, Or.inl ⟨eI, Or.inl h⟩⟩)
  rotate_left
  · exact R f x y Γ Δ t H sh (Or.inr ⟨ch, Or.inl ⟨eI, Or.inr (Or.inr h)⟩⟩)
  have H' := H
  obtain ⟨hx9, hy9, ⟨he, hv, hd', h20, h47, -⟩, hb, ng, -, -, no1, no2⟩ := H'
  obtain ⟨⟨wt, nt, tt, m3', m3, n9⟩, pm, hbt⟩ := h9_t H sh
  unfold exJ at hx
  rw [Bool.and_eq_true] at hx
  have e2 : tch B = 2 := Nat.eq_of_beq_eq_true hx.1
  have oB : ok 0 B = true := by
    have q := he.1
    rw [eΓ] at q
    exact (ok_all.mp q.1).1
  have eB := two_rec oB e2
  subst eB
  cases eI : Δ.isEmpty with
  | false =>
    rw [eI, if_neg Bool.false_ne_true, Bool.and_eq_true, Bool.or_eq_true] at hx
    exact R f x y Γ Δ t H sh (Or.inr ⟨ch, Or.inl ⟨eI, Or.inr (Or.inl ⟨C, eΓ, lb, fl, Nat.eq_of_beq_eq_true hx.2.1, hx.2.2.imp Nat.eq_of_beq_eq_true Nat.eq_of_beq_eq_true⟩)⟩⟩)
  | true =>
    rw [eI, if_pos rfl] at hx
    have k32 : tch C = 32 := Nat.eq_of_beq_eq_true hx.2
    have eD := List.isEmpty_iff.mp eI
    have ec : cch Γ = 10 + tch C := by
      rw [eΓ]
      show (tch (tAll tR0 C) + 4) + 0 = _
      rw [tch_all]
      omega
    have m8 := h9_e8 n9 ch h20 h47 m3 (by omega) eI
    obtain ⟨-, pt, -, -, n11⟩ := pee_ok f _ _ t wt
    have et : (pee f t).2 = t := pt.resolve_right (by omega)
    rw [et] at n11
    have t8 : mch t = 8 := by omega
    subst eD
    subst eΓ
    have nop : ∀ S, tyF f t [tAll tR0 C] [] = .inr S → NOp f t := fun S hS => cl_eight (C := C) wt he.1 hv tt hS t8 n11
    intro S T hS hT
    exfalso
    rcases sh with ⟨rfl, hs⟩ | ⟨rfl, hs⟩
    · exact no1 hs (nop S hS)
    · exact no2 hs (nop T hT)
theorem pairn_px (R : RESTX9) : PAIRn := pairn_pw (restW9_of R)
