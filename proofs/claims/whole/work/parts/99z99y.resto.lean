/-! RESTO9: contexts without ndk by characters and nodes. -/
def W9v (f : Nat) (x y t : Ty) (m : Nat) (e : Bool) (Γ : List Ty) : Prop := ∃ (Δ1 Γ0 : List Ty) (B C : Ty), Γ = cxs Δ1 Γ0 (tAll B C) ∧ LBd Γ0 Δ1 (tAll B C) tTop B C ∧ 1 ≤ cch Γ0 + cch Δ1 ∧ exl e m (tch B) (tch C) (cch Γ0) (cch Δ1) = true ∧ (e = true ∨ 6 ≤ m ∨ 1 ≤ cch Δ1 ∨ lt9 (tch B) (tch C) (cch Γ0) = true) ∧ ((tch B = 1 ∧ tp2 (tch B) (tch C) (cch Γ0) (cch Δ1) = true) ∨ (2 ≤ tch B ∧ sN B Γ0.length (Γ0.length + 1) C = true ∧ lx9 e m (tch B) (tch C) (cch Γ0) (cch Δ1) = true) ∨ (2 ≤ tch B ∧ sN B Γ0.length (Γ0.length + 1) C = false ∧ ∃ j, j < Γ0.length ∧ sN B Γ0.length j (bnd Γ0 j) = true) ∨ (2 ≤ tch B ∧ OVq 1 B C Dsm Γ0 ∧ ndk (cch Γ0) (cch Δ1) = false ∧ (e = true ∨ (¬ CFt f t ∧ 6 ≤ m) ∨ (CFt f t ∧ (¬ (CFt f x ∧ CFt f y) ∨ B7z (tch B) (tch C) (cch Γ0) (cch Δ1) = false) ∧ rx9 (tch B) (tch C) (cch Γ0) (cch Δ1) (mch t) (mch x + mch y - mch t) = false))))
def RESTO9 : Prop := ∀ (f : Nat) (x y : Ty) (Γ : List Ty) (Δ : List (Nat × Ty × Nat)) (t : Ty), H9 f x y Γ Δ → Sh9 x y t → (¬ CHo f t [] ∨ (CHo f t [] ∧ (W9b (mch (pee f t).2) Δ.isEmpty Γ ∨ W9v f x y t (mch (pee f t).2) Δ.isEmpty Γ))) → PRn f x y Γ Δ
theorem restN9_of (R : RESTO9) : RESTN9 := by
  intro f x y Γ Δ t H sh h
  rcases h with h | ⟨ch, h | h⟩
  · exact R f x y Γ Δ t H sh (Or.inl h)
  · exact R f x y Γ Δ t H sh (Or.inr ⟨ch, Or.inl h⟩)
  obtain ⟨Δ1, Γ0, B, C, e, lb, nz, hx, h3, h4⟩ := h
  have keep := fun q => R f x y Γ Δ t H sh (Or.inr ⟨ch, Or.inr ⟨Δ1, Γ0, B, C, e, lb, nz, hx, h3, q⟩⟩)
  rcases h4 with h4 | h4 | h4 | ⟨b2, ov, nk⟩
  · exact keep (Or.inl h4)
  · exact keep (Or.inr (Or.inl h4))
  · exact keep (Or.inr (Or.inr (Or.inl h4)))
  have keep4 : (Δ.isEmpty = true ∨ (¬ CFt f t ∧ 6 ≤ mch (pee f t).2) ∨ (CFt f t ∧ (¬ (CFt f x ∧ CFt f y) ∨ B7z (tch B) (tch C) (cch Γ0) (cch Δ1) = false) ∧ rx9 (tch B) (tch C) (cch Γ0) (cch Δ1) (mch t) (mch x + mch y - mch t) = false)) → PRn f x y Γ Δ := fun q => keep (Or.inr (Or.inr (Or.inr ⟨b2, ov, nk, q⟩)))
  cases eI : Δ.isEmpty with
  | true => exact keep4 (Or.inl eI)
  | false =>
    have nΔ : Δ ≠ [] := fun q => by rw [q] at eI; cases eI
    obtain ⟨⟨wt, nt, tt, m3', m3, n9⟩, pm, hbt⟩ := h9_t H sh
    have H' := H
    obtain ⟨hx9, hy9, ⟨he, hv, hd', h20, h47, -⟩, hb, ng, nPS, nPG, -⟩ := H'
    by_cases cf : CFt f t
    rotate_left
    · by_cases m6 : 6 ≤ mch (pee f t).2
      · exact keep4 (Or.inr (Or.inl ⟨cf, m6⟩))
      have w' := (pee_ok f _ _ t wt).1.1
      obtain ⟨a, b, c, q, -, q1, q2⟩ := chr_min _ _ _ _ w'
      have b3 : 3 ≤ b := q1.resolve_left (fun c => cf (cf_pee f t c))
      exact h9_ntv H sh (NtV_pee f t wt he (ntv_nop w' he (q2.resolve_right (by omega)) (by omega)))
    have k40 := lb.2.2.2.1
    have tl : mch t ≤ mch x + mch y := by
      rcases sh with ⟨rfl, -⟩ | ⟨rfl, -⟩ <;> omega
    cases hz : rx9 (tch B) (tch C) (cch Γ0) (cch Δ1) (mch t) (mch x + mch y - mch t) with
    | true => exact pair_xm H sh e ov nΔ cf b2 k40 (by omega) hz
    | false =>
      by_cases c2 : CFt f x ∧ CFt f y
      rotate_left
      · exact keep4 (Or.inr (Or.inr ⟨cf, Or.inl c2, hz⟩))
      cases h7 : B7z (tch B) (tch C) (cch Γ0) (cch Δ1) with
      | false => exact keep4 (Or.inr (Or.inr ⟨cf, Or.inr h7, hz⟩))
      | true =>
        exfalso
        have h37 : 37 ≤ 8 + tch B + tch C + cch Γ0 + cch Δ1 := by
          have q := h7
          unfold B7z at q
          rw [Bool.and_eq_true] at q
          exact Nat.le_of_ble_eq_true q.1
        have ec := cch_cx (Γ0 := Γ0) (β := tAll B C) Δ1
        rw [← e] at ec
        have eσ := tch_all B C
        have d5 := dch_five he nΔ
        have mx3 := hx9.2.2.2.1
        have my3 := hy9.2.2.2.1
        exact nPS ⟨Δ1, Γ0, B, C, e, ov, c2.1, c2.2, b2, k40, by omega, h7, by omega, by omega, fun q => absurd q nΔ⟩
theorem pairn_po (R : RESTO9) : PAIRn := pairn_pn (restN9_of R)
