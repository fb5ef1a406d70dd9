/-! ONE BINDER: what the lists leave (RESTAQ9). -/
def RESTAQ9 : Prop := ∀ (f : Nat) (x y : Ty) (Γ : List Ty) (Δ : List (Nat × Ty × Nat)) (t : Ty), H9 f x y Γ Δ → Sh9 x y t → ¬ CHo f t [] → ((Δ = [] ∧ (18 ≤ mch t ∨ ∃ (b b' B C : Ty), Γ = [b] ∧ LBd [] [] b b' B C ∧ ¬ IS2 (fun _ => False) b ∧ sN B 0 1 C = true ∧ tch B = 1 ∧ inB (gB bQn (cch Γ) (mch t)) (tch B) (tch C) (tch b - tch (tAll B C)) 0 0 = true)) ∨ ∃ (b b' B C : Ty), Γ = [b] ∧ LBd [] [] b b' B C ∧ ¬ IS2 (fun _ => False) b ∧ sN B 0 1 C = true ∧ ((Δ.length = 1 ∧ (tch B = 1 ∨ (tch B = 2 ∧ mch t = 12)) ∧ inB (gB bQo (cch Γ) (mch t)) (tch B) (tch C) (tch b - tch (tAll B C)) 0 0 = true) ∨ (2 ≤ Δ.length ∧ (tch B = 1 ∨ (tch B = 2 ∧ mch t = 10)) ∧ inB (gB bQm (cch Γ) (mch t)) (tch B) (tch C) (tch b - tch (tAll B C)) 0 0 = true))) → PRn f x y Γ Δ
theorem inB_fl {L : List (List (List (Nat × Nat × Nat)))} {P : Nat → Nat → Bool} (hL : ∀ c, c < 48 → ∀ m, m < 26 → (gB L c m).all (fun e => Nat.blt e.2.1 (e.1 + 5) || P e.1 m) = true) {c m be k ov : Nat} (c48 : c < 48) (m26 : m < 26) (hk : be + 5 ≤ k) (h : inB (gB L c m) be k ov 0 0 = true) : P be m = true := by
  unfold inB at h
  rw [Bool.and_eq_true, Bool.and_eq_true] at h
  obtain ⟨e, he9, z⟩ := List.any_eq_true.mp h.2.2
  simp only [Bool.and_eq_true] at z
  have z1 := Nat.eq_of_beq_eq_true z.1
  have z2 := Nat.eq_of_beq_eq_true z.2.1
  rw [z1]
  have q := List.all_eq_true.mp (hL c c48 m m26) e he9
  rw [Bool.or_eq_true] at q
  rcases q with q | q
  · exact (blt_no (show e.1 + 5 ≤ e.2.1 by omega) q).elim
  · exact q
theorem restAP9_of (R : RESTAQ9) : RESTAP9 := by
  intro f x y Γ Δ t H sh nc q
  have H' := H
  obtain ⟨hx9, hy9, ⟨he, hv, hd', h20, h47, nOne⟩, hb, nO, nPS, nPG, -⟩ := H'
  obtain ⟨⟨wt, nt, tt, m3', m3, n9⟩, pm, hbt⟩ := h9_t H sh
  rcases q with ⟨eD, q⟩ | ⟨b, b', B, C, eΓ, lb, nf, fl, q⟩
  · rcases q with q | ⟨b, b', B, C, eΓ, lb, nf, fl, k, q⟩
    · exact R f x y Γ Δ t H sh nc (Or.inl ⟨eD, Or.inl q⟩)
    have oB := (ok_all.mp lb.1.2.1).1
    have kC := sN_ch oB _ C 1 (Nat.le_refl _) (ok_all.mp lb.1.2.1).2 fl
    have p := of_decide_eq_true <| inB_fl (P := fun be m => decide (be = 1 ∨ m ≤ 15)) (by decide +kernel) (by omega) (by omega) kC q
    exact R f x y Γ Δ t H sh nc (Or.inl ⟨eD, Or.inr ⟨b, b', B, C, eΓ, lb, nf, fl, by omega, q⟩⟩)
  have oB := (ok_all.mp lb.1.2.1).1
  have n3 := tch_three oB
  have kC := sN_ch oB _ C 1 (Nat.le_refl _) (ok_all.mp lb.1.2.1).2 fl
  rcases q with ⟨l1, k, q⟩ | ⟨l2, k, q⟩
  · have p := of_decide_eq_true <| inB_fl (P := fun be m => decide (be = 1 ∨ (be = 2 ∧ (m = 12 ∨ m ≤ 10)) ∨ be = 3 ∨ (4 ≤ be ∧ m ≤ 12))) (by decide +kernel) (by omega) (by omega) kC q
    exact R f x y Γ Δ t H sh nc (Or.inr ⟨b, b', B, C, eΓ, lb, nf, fl, Or.inl ⟨l1, by omega, q⟩⟩)
  · have p := of_decide_eq_true <| inB_fl (P := fun be m => decide (be = 1 ∨ (be = 2 ∧ (m = 10 ∨ m ≤ 8)) ∨ be = 3 ∨ (4 ≤ be ∧ m ≤ 9))) (by decide +kernel) (by omega) (by omega) kC q
    exact R f x y Γ Δ t H sh nc (Or.inr ⟨b, b', B, C, eΓ, lb, nf, fl, Or.inr ⟨l2, by omega, q⟩⟩)
theorem pairn_qq (R : RESTAQ9) : PAIRn := pairn_qp (restAP9_of R)
