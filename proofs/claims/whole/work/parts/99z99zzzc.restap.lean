/-! ONE BINDER, one name: twelve characters (RESTAP9). -/
def RESTAP9 : Prop := ∀ (f : Nat) (x y : Ty) (Γ : List Ty) (Δ : List (Nat × Ty × Nat)) (t : Ty), H9 f x y Γ Δ → Sh9 x y t → ¬ CHo f t [] → ((Δ = [] ∧ (18 ≤ mch t ∨ ∃ (b b' B C : Ty), Γ = [b] ∧ LBd [] [] b b' B C ∧ ¬ IS2 (fun _ => False) b ∧ sN B 0 1 C = true ∧ (tch B = 1 ∨ 16 ≤ mch t) ∧ inB (gB bQn (cch Γ) (mch t)) (tch B) (tch C) (tch b - tch (tAll B C)) 0 0 = true)) ∨ ∃ (b b' B C : Ty), Γ = [b] ∧ LBd [] [] b b' B C ∧ ¬ IS2 (fun _ => False) b ∧ sN B 0 1 C = true ∧ ((Δ.length = 1 ∧ (tch B = 1 ∨ 13 ≤ mch t ∨ (tch B = 2 ∧ 11 ≤ mch t)) ∧ inB (gB bQo (cch Γ) (mch t)) (tch B) (tch C) (tch b - tch (tAll B C)) 0 0 = true) ∨ (2 ≤ Δ.length ∧ (tch B = 1 ∨ (tch B = 2 ∧ 9 ≤ mch t) ∨ 10 ≤ mch t) ∧ inB (gB bQm (cch Γ) (mch t)) (tch B) (tch C) (tch b - tch (tAll B C)) 0 0 = true))) → PRn f x y Γ Δ
theorem restAO9_of (R : RESTAP9) : RESTAO9 := by
  intro f x y Γ Δ t H sh nc q
  have H' := H
  obtain ⟨hx9, hy9, ⟨he, hv, hd', h20, h47, nOne⟩, hb, nO, nPS, nPG, -⟩ := H'
  obtain ⟨⟨wt, nt, tt, m3', m3, n9⟩, pm, hbt⟩ := h9_t H sh
  rcases q with q | ⟨b, b', B, C, eΓ, lb, nf, fl, q⟩
  · exact R f x y Γ Δ t H sh nc (Or.inl q)
  rcases q with ⟨l1, q0, q⟩ | q
  rotate_left
  · exact R f x y Γ Δ t H sh nc (Or.inr ⟨b, b', B, C, eΓ, lb, nf, fl, Or.inr q⟩)
  by_cases k : tch B = 1 ∨ 13 ≤ mch t ∨ (tch B = 2 ∧ 11 ≤ mch t)
  · exact R f x y Γ Δ t H sh nc (Or.inr ⟨b, b', B, C, eΓ, lb, nf, fl, Or.inl ⟨l1, k, q⟩⟩)
  have hc := he.1
  rw [eΓ] at hc
  have ob : ok 0 b = true := hc.1
  have oB := (ok_all.mp lb.1.2.1).1
  have oC := (ok_all.mp lb.1.2.1).2
  have pB := tch_pos oB
  have n3 := tch_three oB
  have e12 : mch t = 12 := by omega
  have b4 : 4 ≤ tch B := by omega
  have kC := sN_ch oB _ C 1 (Nat.le_refl _) oC fl
  have hv' := hv
  rw [eΓ] at hv'
  obtain ⟨a0, ea⟩ : ∃ a0, Δ = [a0] := by
    match Δ, l1 with
    | [a], _ => exact ⟨a, rfl⟩
  have d5 : 5 ≤ dch Δ := dch_five he (by rw [ea]; exact List.cons_ne_nil _ _)
  unfold inB at q
  rw [Bool.and_eq_true, Bool.and_eq_true] at q
  obtain ⟨e, he9, z⟩ := List.any_eq_true.mp q.2.2
  simp only [Bool.and_eq_true] at z
  have z1 := Nat.eq_of_beq_eq_true z.1
  have z2 := Nat.eq_of_beq_eq_true z.2.1
  have z3 := Nat.eq_of_beq_eq_true z.2.2
  rw [e12] at he9
  have c29 : cch Γ = 29 := by
    have low : ∀ c, c < 28 → gB bQo c 12 = [] := by decide +kernel
    have l28 : ∀ e ∈ gB bQo 28 12, 4 ≤ e.1 → e.2.1 ≤ 1 := by decide +kernel
    by_cases c1 : cch Γ < 28
    · rw [low _ c1] at he9
      cases he9
    by_cases c2 : cch Γ = 28
    · rw [c2] at he9
      have := l28 e he9 (by omega)
      omega
    · omega
  have l29 : ∀ e ∈ gB bQo 29 12, 4 ≤ e.1 → e.2.2 = 0 := by decide +kernel
  rw [c29] at he9
  have ov0 := l29 e he9 (by omega)
  have h2 : hd b = 2 := Classical.byContradiction (fun h2 => by
    have := ov_three lb.1 ob nf h2
    omega)
  have eb := (lb_root lb ob h2).1
  have d6 : dch Δ ≤ 5 := by omega
  rw [ea] at wt he d6
  refine h9_ntv H sh (fun S hS => ?_)
  rw [ea] at hS
  exfalso
  have a9 := he.2.2 a0 (List.mem_singleton.mpr rfl)
  have d6 : tch a0.2.1 + 4 + 0 ≤ 5 := d6
  have p9 := tch_pos a9.2.1
  have eT := tch_lft a0.2.2 (Γ.length - a0.2.2) a0.2.1 a0.2.2 a9.2.1
  have oT : ok 1 (lft a0.2.2 (Γ.length - a0.2.2) a0.2.1) = true := by
    have q := ok_lft a0.2.2 (Γ.length - a0.2.2) a0.2.1 0 (by rw [Nat.add_zero]; exact a9.2.1)
    rw [eΓ] at q ⊢
    have l0 : a0.2.2 ≤ [b].length := by rw [eΓ] at a9; exact a9.1
    rw [show a0.2.2 + ([b].length - a0.2.2) + 0 = 1 by have : [b].length = 1 := rfl; omega] at q
    exact q
  have hT : hd (expo Γ Γ.length (lft a0.2.2 (Γ.length - a0.2.2) a0.2.1)) < 8 := by
    rcases one_txt oT (by omega) with e1 | ⟨j, hj, e1⟩
    · rw [e1, ex_n (by decide)]; decide
    · rw [e1]
      subst eΓ
      have j0 : j = 0 := by omega
      subst j0
      have l1 : 0 < [b].length := Nat.zero_lt_one
      rw [(ex_v he.1 hv l1).1]
      have := hd_lf (k := 0) (n := 1) ob (hv 0 l1).2
      show hd (lft 0 1 b) < 8
      omega
  refine vac_twelve he hv hT (fun p q9 Q e oQ hbl => ?_) wt tt nc (by omega) hS
  subst eΓ
  exact arg_four hc hv' (fun B1 C1 e1 => by
    rw [e1] at eb
    obtain ⟨q2, -⟩ := all_inj eb
    rw [q2]
    exact b4) oT (by omega) p q9 Q e oQ hbl
theorem pairn_qp (R : RESTAP9) : PAIRn := pairn_qo (restAO9_of R)
